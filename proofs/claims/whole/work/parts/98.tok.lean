/-! the text's tokens -/
def inr (B : Nat → Int32) (a b k : Nat) : Bool := decide ((a : Int) ≤ (B k).toInt ∧ (B k).toInt ≤ (b : Int))
def out (B : Nat → Int32) (a b k : Nat) : Bool := !inr B a b k
def tkS (B : Nat → Int32) (N p : Nat) : Nat := ff (out B 32 32) (N - p) p
def endOf (B : Nat → Int32) (N s : Nat) : Nat := if s < N then (if inr B 97 122 s = true then ff (out B 97 122) (N - s) s else if inr B 48 57 s = true then ff (out B 48 57) (N - s) s else s + 1) else s
def kindOf (B : Nat → Int32) (N s : Nat) : Int32 := if s < N then (if inr B 97 122 s = true then 1 else if inr B 48 57 s = true then (if endOf B N s - s ≤ 2 then 2 else 4) else if B s = 59 then 3 else 4) else 0
def valOf (B : Nat → Int32) (N s : Nat) : Nat := if endOf B N s - s = 1 then (B s).toNatClampNeg - 48 else 10 * ((B s).toNatClampNeg - 48) + ((B (s + 1)).toNatClampNeg - 48)
def tkE (B : Nat → Int32) (N p : Nat) : Nat := endOf B N (tkS B N p)
def tkK (B : Nat → Int32) (N p : Nat) : Int32 := kindOf B N (tkS B N p)
def tkV (B : Nat → Int32) (N p : Nat) : Nat := valOf B N (tkS B N p)
theorem ff_hit {P : Nat → Bool} {d x : Nat} (h : P x = false) (hd : 0 < d) : ff P d x = ff P (d - 1) (x + 1) := by
  obtain ⟨d, rfl⟩ : ∃ m, d = m + 1 := ⟨d - 1, by omega⟩
  show (if P x = true then x else ff P d (x + 1)) = _
  rw [h, if_neg (by decide)]
  rfl
theorem out_f {B : Nat → Int32} {a b k : Nat} (h : inr B a b k = true) : out B a b k = false := by unfold out; rw [h]; rfl
theorem end_b (B : Nat → Int32) {N s : Nat} (h : s ≤ N) : s ≤ endOf B N s ∧ endOf B N s ≤ N ∧ (s < N → s < endOf B N s) := by
  unfold endOf
  by_cases g : s < N
  · rw [if_pos g]
    by_cases h1 : inr B 97 122 s = true
    · rw [if_pos h1, ff_hit (out_f h1) (by omega)]
      have := ff_b (out B 97 122) (N - s - 1) (s + 1)
      omega
    · rw [if_neg h1]
      by_cases h2 : inr B 48 57 s = true
      · rw [if_pos h2, ff_hit (out_f h2) (by omega)]
        have := ff_b (out B 48 57) (N - s - 1) (s + 1)
        omega
      · rw [if_neg h2]
        omega
  · rw [if_neg g]
    omega
theorem tkS_b (B : Nat → Int32) {N p : Nat} (h : p ≤ N) : p ≤ tkS B N p ∧ tkS B N p ≤ N := by
  have := ff_b (out B 32 32) (N - p) p
  unfold tkS
  omega
theorem tkE_b (B : Nat → Int32) {N p : Nat} (h : p ≤ N) : tkS B N p ≤ tkE B N p ∧ tkE B N p ≤ N ∧ p ≤ tkE B N p := by
  have h1 := tkS_b B h
  have h2 := end_b B h1.2
  unfold tkE
  omega
theorem tkK_0 (B : Nat → Int32) {N p : Nat} (h : p ≤ N) (hk : ¬ tkK B N p = 0) : tkS B N p < tkE B N p := by
  have h1 := tkS_b B h
  have h2 := end_b B h1.2
  unfold tkK kindOf at hk
  unfold tkE
  by_cases g : tkS B N p < N
  · exact h2.2.2 g
  · rw [if_neg g] at hk
    exact absurd rfl hk
theorem inr_g {B : Nat → Int32} {a b k : Nat} (hb : b < 2 ^ 31) : inr B a b k = true ↔ Rg a b (B k) := by
  unfold inr
  rw [Rg.iff hb, decide_eq_true_eq]
theorem wi_v {x : Int32} {B : Nat → Int32} {a b k : Nat} (e : x = B k) (ha : a < 2 ^ 31) (hb : b < 2 ^ 31) {lo hi : Int32} (h1 : lo = nI a) (h2 : hi = nI b) : f_X10_within x lo hi = some (if inr B a b k = true then 1 else 0) := by
  rw [e]
  by_cases g : inr B a b k = true
  · rw [if_pos g]; exact wi_y ((inr_g hb).mp g) hb ha h1 h2
  · rw [if_neg g]; exact wi_n (fun z => g ((inr_g hb).mpr z)) hb ha h1 h2
theorem small_v {x : Int32} {B : Nat → Int32} {k : Nat} (e : x = B k) : f_X11_isSmall x = some (if inr B 97 122 k = true then 1 else 0) := by
  unfold f_X11_isSmall
  rw [e]
  by_cases g : inr B 97 122 k = true
  · rw [if_pos g, in_y (a := 97) (b := 122) (lo := 97) (hi := 122) ((inr_g (by omega)).mp g) (by omega) (by omega) rfl rfl]; rfl
  · rw [if_neg g, in_n (a := 97) (b := 122) (lo := 97) (hi := 122) (fun z => g ((inr_g (by omega)).mpr z)) (by omega) (by omega) rfl rfl]; rfl
theorem fig_v {x : Int32} {B : Nat → Int32} {k : Nat} (e : x = B k) : f_X11_isFigure x = some (if inr B 48 57 k = true then 1 else 0) := by
  unfold f_X11_isFigure
  rw [e]
  by_cases g : inr B 48 57 k = true
  · rw [if_pos g, in_y (a := 48) (b := 57) (lo := 48) (hi := 57) ((inr_g (by omega)).mp g) (by omega) (by omega) rfl rfl]; rfl
  · rw [if_neg g, in_n (a := 48) (b := 57) (lo := 48) (hi := 57) (fun z => g ((inr_g (by omega)).mpr z)) (by omega) (by omega) rfl rfl]; rfl
theorem fig_d {B : Nat → Int32} {k : Nat} (h : inr B 48 57 k = true) : ∃ d, d ≤ 9 ∧ B k = nI (48 + d) ∧ (B k).toNatClampNeg - 48 = d := by
  obtain ⟨j, h1, h2, e⟩ := (inr_g (by omega)).mp h
  refine ⟨j - 48, by omega, by rw [e, show 48 + (j - 48) = j by omega], ?_⟩
  rw [e, nI_clamp (by omega)]
theorem dgv (x d : Nat) : (nI x * 10 + nI (48 + d)) - 48 = nI (10 * x + d) := by
  rw [show (10 : Int32) = nI 10 from rfl, show (48 : Int32) = nI 48 from rfl, pk_mul, nI_add, pk_sub (by omega), show x * 10 + (48 + d) - 48 = 10 * x + d by omega]
/-- the figures of a run -/
theorem run_in (B : Nat → Int32) {N s a b : Nat} : ∀ k, s ≤ k → k < ff (out B a b) (N - s) s → inr B a b k = true := fun k h1 h2 => by
  have := (ff_b (out B a b) (N - s) s).2.2.2 k h1 h2
  unfold out at this
  simpa using this
theorem val_b (B : Nat → Int32) {N s : Nat} (hs : s ≤ N) (hk : kindOf B N s = 2) : valOf B N s ≤ 99 ∧ s < N ∧ (∀ k, s ≤ k → k < endOf B N s → inr B 48 57 k = true) ∧ (endOf B N s = s + 1 ∨ endOf B N s = s + 2) ∧ inr B 97 122 s = false ∧ inr B 48 57 s = true := by
  have hb := end_b B hs
  unfold kindOf at hk
  by_cases g : s < N
  · rw [if_pos g] at hk
    by_cases h1 : inr B 97 122 s = true
    · rw [if_pos h1] at hk
      exact absurd hk (by decide)
    · rw [if_neg h1] at hk
      by_cases h2 : inr B 48 57 s = true
      · rw [if_pos h2] at hk
        by_cases h3 : endOf B N s - s ≤ 2
        · have hr : ∀ k, s ≤ k → k < endOf B N s → inr B 48 57 k = true := fun k k1 k2 => by
            unfold endOf at k2
            rw [if_pos g, if_neg h1, if_pos h2] at k2
            exact run_in B k k1 k2
          have hlt := hb.2.2 g
          refine ⟨?_, g, hr, by omega, by simpa using h1, h2⟩
          unfold valOf
          obtain ⟨d1, c1, -, c3⟩ := fig_d (hr s (by omega) (by omega))
          by_cases h4 : endOf B N s - s = 1
          · rw [if_pos h4, c3]; omega
          · rw [if_neg h4, c3]
            obtain ⟨d2, e1, -, e3⟩ := fig_d (hr (s + 1) (by omega) (by omega))
            rw [e3]; omega
        · rw [if_neg h3] at hk
          exact absurd hk (by decide)
      · rw [if_neg h2] at hk
        by_cases h3 : B s = 59
        · rw [if_pos h3] at hk; exact absurd hk (by decide)
        · rw [if_neg h3] at hk; exact absurd hk (by decide)
  · rw [if_neg g] at hk
    exact absurd hk (by decide)
section TOKC
variable {B : Nat → Int32} {N : Nat}
def CX (B : Nat → Int32) (N : Nat) (σ : St) : Prop := σ.1 4102 = nI N ∧ ∀ k, k < N → σ.2.2 42 k = B k
def Rd (σ σ' : St) : Prop := (∀ k, k ≠ 4103 → k ≠ 4104 → k ≠ 4105 → k ≠ 4106 → σ'.1 k = σ.1 k) ∧ σ'.2 = σ.2
def TC (B : Nat → Int32) (N : Nat) (σ : St) (p : Nat) : Prop := σ.1 4104 = nI (tkS B N p) ∧ σ.1 4103 = nI (tkE B N p) ∧ σ.1 4105 = tkK B N p ∧ (tkK B N p = 2 → σ.1 4106 = nI (tkV B N p))
theorem run_C (hN : N ≤ 150) {σ : St} (hX : CX B N σ) {a b : Nat} (ha : a < 2 ^ 31) (hb : b < 2 ^ 31) : ∀ (d p fu : Nat), p + d = N → d < fu → f_X9_behindRun_L3 fu σ (nI a) (nI b) (nI p) = some (nI (ff (out B a b) d p), σ) := by
  intro d
  induction d with
  | zero =>
    intro p fu hp hfu
    obtain ⟨fu, rfl⟩ : ∃ m, fu = m + 1 := ⟨fu - 1, by omega⟩
    show f_X9_behindRun_b3 _ σ (nI a) (nI b) (nI p) = _
    unfold f_X9_behindRun_b3 f_X9_behindRun_b40
    rw [hX.1, if_pos ((nle (by omega) (by omega)).mpr (by omega))]
    rfl
  | succ d ih =>
    intro p fu hp hfu
    obtain ⟨fu, rfl⟩ : ∃ m, fu = m + 1 := ⟨fu - 1, by omega⟩
    show f_X9_behindRun_b3 (f_X9_behindRun_L3 fu) σ (nI a) (nI b) (nI p) = _
    unfold f_X9_behindRun_b3 f_X9_behindRun_b40
    have fe : ff (out B a b) (d + 1) p = if out B a b p = true then p else ff (out B a b) d (p + 1) := rfl
    rw [hX.1, if_neg (show ¬ nI N ≤ nI p from fun z => absurd ((nle (by omega) (by omega)).mp z) (by omega)), ck_nI (show p < 150 by omega) (by omega), cT, cT, nI_clamp (show p < 2 ^ 31 by omega), hX.2 p (by omega), fe, nI_1]
    by_cases g : inr B a b p = true
    · have hg := of_decide_eq_true (show decide _ = true from g)
      rw [out_f g, if_neg (show ¬ false = true by decide), if_neg (show ¬ B p < nI a from fun z => by rw [Int32.lt_iff_toInt_lt, nI_toInt ha] at z; omega), if_neg (show ¬ nI b < B p from fun z => by rw [Int32.lt_iff_toInt_lt, nI_toInt hb] at z; omega)]
      exact ih (p + 1) fu (by omega) (by omega)
    · have hg : ¬ ((a : Int) ≤ (B p).toInt ∧ (B p).toInt ≤ (b : Int)) := fun z => g (decide_eq_true z)
      have ho : out B a b p = true := by unfold out; simpa using g
      rw [ho, if_pos rfl]
      by_cases h1 : B p < nI a
      · rw [if_pos h1]
      · rw [if_neg h1, if_pos]
        rw [Int32.lt_iff_toInt_lt, nI_toInt ha] at h1
        rw [Int32.lt_iff_toInt_lt, nI_toInt hb]
        omega
theorem behind_C (hN : N ≤ 150) {σ : St} (hX : CX B N σ) {a b p : Nat} (ha : a < 2 ^ 31) (hb : b < 2 ^ 31) (hp : p ≤ N) {lo hi : Int32} (h1 : lo = nI a) (h2 : hi = nI b) : f_X9_behindRun σ (nI p) lo hi = some (nI (ff (out B a b) (N - p) p), σ) := by
  rw [h1, h2]
  exact run_C hN hX ha hb (N - p) p FU (by omega) (by unfold FU; omega)
theorem num_C0 (hN : N ≤ 150) {σ : St} (hX : CX B N σ) {s : Nat} (hs : s ≤ N) (hk : kindOf B N s = 2) (h1 : σ.1 4104 = nI s) (h2 : σ.1 4103 = nI (endOf B N s)) : f_X9_numberAtStart σ = some (nI (valOf B N s), σ) := by
  obtain ⟨-, g, hr, hl, -, -⟩ := val_b B hs hk
  have hb := end_b B hs
  obtain ⟨d1, c1, c2, c3⟩ := fig_d (hr s (by omega) (by omega))
  unfold f_X9_numberAtStart
  rw [h1]
  obtain ⟨m, hF⟩ : ∃ m, FU = m + 3 := ⟨999997, rfl⟩
  rw [hF]
  show f_X9_numberAtStart_b7 (f_X9_numberAtStart_b7 (f_X9_numberAtStart_L7 (m + 1))) σ (nI 0) (nI s) = _
  unfold f_X9_numberAtStart_b7
  rw [h2, if_neg (show ¬ nI (endOf B N s) ≤ nI s from fun z => absurd ((nle (by omega) (by omega)).mp z) (by omega)), ck_nI (show s < 150 by omega) (by omega), cT, nI_clamp (show s < 2 ^ 31 by omega), hX.2 s g, c2, dgv, nI_1]
  unfold valOf
  rw [c3]
  rcases hl with hl | hl
  · rw [hl, if_pos ((nle (by omega) (by omega)).mpr (by omega)), if_pos (by omega), show 10 * 0 + d1 = d1 by omega]
  · obtain ⟨d2, e1, e2, e3⟩ := fig_d (hr (s + 1) (by omega) (by omega))
    rw [e2] at e3
    rw [hl, if_neg (show ¬ nI (s + 2) ≤ nI (s + 1) from fun z => absurd ((nle (by omega) (by omega)).mp z) (by omega)), ck_nI (show s + 1 < 150 by omega) (by omega), cT, nI_clamp (show s + 1 < 2 ^ 31 by omega), hX.2 (s + 1) (by omega), e2, dgv, nI_1, if_neg (by omega)]
    show f_X9_numberAtStart_b7 (f_X9_numberAtStart_L7 m) σ _ _ = _
    unfold f_X9_numberAtStart_b7
    rw [h2, hl, if_pos ((nle (by omega) (by omega)).mpr (by omega)), e3, show 10 * (10 * 0 + d1) + d2 = 10 * d1 + d2 by omega]
theorem CX.rd {σ σ' : St} (h : CX B N σ) (g : Rd σ σ') : CX B N σ' := ⟨(g.1 4102 (by omega) (by omega) (by omega) (by omega)).trans h.1, fun k hk => by rw [g.2]; exact h.2 k hk⟩
theorem advance_C (hN : N ≤ 150) {σ : St} (hX : CX B N σ) {p : Nat} (hp : p ≤ N) (h : σ.1 4103 = nI p) : ∃ σ', f_X9_advance σ = some σ' ∧ Rd σ σ' ∧ TC B N σ' p := by
  have hS := tkS_b B hp
  have hE := end_b B hS.2
  unfold f_X9_advance TC tkE tkK tkV
  rw [h, behind_C hN hX (a := 32) (b := 32) (lo := 32) (hi := 32) (by omega) (by omega) hp rfl rfl, bs]
  dsimp only
  have se : ff (out B 32 32) (N - p) p = tkS B N p := rfl
  rw [se, hX.1]
  generalize tkS B N p = s at hS hE
  by_cases g : s < N
  · rw [if_pos ((nlt (by omega) (by omega)).mpr g), ck_nI (show s < 150 by omega) (by omega), cT, cT, cT, nI_clamp (show s < 2 ^ 31 by omega), wi_v (hX.2 s g) (a := 97) (b := 122) (lo := 97) (hi := 122) (by omega) (by omega) rfl rfl]
    have r1 : Rd σ (sI (sI σ 4103 (nI s)) 4104 (nI s)) := ⟨fun k h1 h2 h3 h4 => by rw [sI1, if_neg h2, sI1, if_neg h1], rfl⟩
    by_cases h1 : inr B 97 122 s = true
    · have ee : endOf B N s = ff (out B 97 122) (N - s) s := by unfold endOf; rw [if_pos g, if_pos h1]
      have ek : kindOf B N s = 1 := by unfold kindOf; rw [if_pos g, if_pos h1]
      have r2 : Rd σ (sI (sI (sI σ 4103 (nI s)) 4104 (nI s)) 4105 1) := ⟨fun k h1 h2 h3 h4 => by rw [sI1, if_neg h3]; exact r1.1 k h1 h2 h3 h4, rfl⟩
      rw [if_pos h1, b1, behind_C hN (hX.rd r2) (a := 97) (b := 122) (lo := 97) (hi := 122) (by omega) (by omega) hS.2 rfl rfl, bs, ← ee, ek]
      refine ⟨_, rfl, ⟨fun k h1 h2 h3 h4 => ?_, rfl⟩, rfl, rfl, rfl, fun z => absurd z (by decide)⟩
      rw [sI1, if_neg h1]
      exact r2.1 k h1 h2 h3 h4
    · rw [if_neg h1, b0, wi_v (hX.2 s g) (a := 48) (b := 57) (lo := 48) (hi := 57) (by omega) (by omega) rfl rfl]
      by_cases h2 : inr B 48 57 s = true
      · have ee : endOf B N s = ff (out B 48 57) (N - s) s := by unfold endOf; rw [if_pos g, if_neg h1, if_pos h2]
        have ek : kindOf B N s = if endOf B N s - s ≤ 2 then 2 else 4 := by unfold kindOf; rw [if_pos g, if_neg h1, if_pos h2]
        rw [if_pos h2, b1, behind_C hN (hX.rd r1) (a := 48) (b := 57) (lo := 48) (hi := 57) (by omega) (by omega) hS.2 rfl rfl, bs, ← ee]
        dsimp only
        have e4 : (sI (sI σ 4103 (nI s)) 4104 (nI s)).1 4104 = nI s := rfl
        rw [e4, pk_sub hE.1]
        unfold f_X9_advance_b140 f_X9_advance_b160
        by_cases h3 : endOf B N s - s ≤ 2
        · rw [if_pos h3] at ek
          have hx5 : CX B N (sI (sI (sI (sI σ 4103 (nI s)) 4104 (nI s)) 4103 (nI (endOf B N s))) 4105 2) := hX
          rw [if_pos (show nI (endOf B N s - s) ≤ 2 from (nle (b := 2) (by omega) (by omega)).mpr h3), if_pos rfl, num_C0 hN hx5 hS.2 ek rfl rfl, bs, ek]
          refine ⟨_, rfl, ⟨fun k h1 h2 h3 h4 => ?_, rfl⟩, rfl, rfl, rfl, fun _ => rfl⟩
          rw [sI1, if_neg h4, sI1, if_neg h3, sI1, if_neg h1]
          exact r1.1 k h1 h2 h3 h4
        · rw [if_neg h3] at ek
          rw [if_neg (show ¬ nI (endOf B N s - s) ≤ 2 from fun z => absurd ((nle (b := 2) (by omega) (by omega)).mp z) h3), if_neg (show ¬ (4 : Int32) = 2 by decide), ek]
          refine ⟨_, rfl, ⟨fun k h1 h2 h3 h4 => ?_, rfl⟩, rfl, rfl, rfl, fun z => absurd z (by decide)⟩
          rw [sI1, if_neg h4, sI1, if_neg h3, sI1, if_neg h1]
          exact r1.1 k h1 h2 h3 h4
      · have ee : endOf B N s = s + 1 := by unfold endOf; rw [if_pos g, if_neg h1, if_neg h2]
        have ek : kindOf B N s = if B s = 59 then 3 else 4 := by unfold kindOf; rw [if_pos g, if_neg h1, if_neg h2]
        rw [if_neg h2, b0, hX.2 s g, ee, ek]
        unfold f_X9_advance_b186
        have e4 : (sI (sI σ 4103 (nI s)) 4104 (nI s)).1 4103 = nI s := rfl
        rw [e4, nI_1]
        by_cases h3 : B s = 59
        · rw [if_pos h3, if_pos h3]
          refine ⟨_, rfl, ⟨fun k h1 h2 h3 h4 => ?_, rfl⟩, rfl, rfl, rfl, fun z => absurd z (by decide)⟩
          rw [sI1, if_neg h1, sI1, if_neg h3]
          exact r1.1 k h1 h2 h3 h4
        · rw [if_neg h3, if_neg h3]
          refine ⟨_, rfl, ⟨fun k h1 h2 h3 h4 => ?_, rfl⟩, rfl, rfl, rfl, fun z => absurd z (by decide)⟩
          rw [sI1, if_neg h1, sI1, if_neg h3]
          exact r1.1 k h1 h2 h3 h4
  · have ee : endOf B N s = s := by unfold endOf; rw [if_neg g]
    have ek : kindOf B N s = 0 := by unfold kindOf; rw [if_neg g]
    rw [if_neg (fun z => g ((nlt (by omega) (by omega)).mp z)), ee, ek]
    refine ⟨_, rfl, ⟨fun k h1 h2 h3 h4 => ?_, rfl⟩, rfl, rfl, rfl, fun z => absurd z (by decide)⟩
    rw [sI1, if_neg h3, sI1, if_neg h2, sI1, if_neg h1]
end TOKC
