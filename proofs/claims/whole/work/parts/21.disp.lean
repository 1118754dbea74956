/-! the kinds: which method runs on the k-th kind's object -/
def kcopied (k : Nat) (x s : Int32) : Option Int32 := match k with
  | 0 => f_X5_copied x s
  | 1 => f_X0_copied x s
  | 2 => f_X5_copied x s
  | 3 => f_X1_copied x s
  | 4 => f_X8_copied x s
  | 5 => f_X6_copied x s
  | _ => none
def klasts (k : Nat) (s : Int32) : Option Int32 := match k with
  | 0 => f_X5_lasts s
  | 1 => f_X5_lasts s
  | 2 => f_X4_lasts s
  | 3 => f_X5_lasts s
  | 4 => f_X8_lasts s
  | 5 => f_X6_lasts s
  | _ => none
section DISP
variable {p : Program} {l : Launch} {e : Env} {R : Room} {s : State} {m : MethodId} {args : Array Value} {below : List Frame} {meth : Method} {c : Code} {H : Heap} {locs : List Loc} {Q : State → Prop} {cc : ByteArray} {pc : Nat} {ls : Array Slot} {rest st0 : List Value} {D : va_G} {ca : Nat → ClassId} {A : Nat → Prop} {own : String} {nL : Nat} {ret : Option FieldType} {ad : Nat → Nat} {σ : St}
theorem run_copied (C : Cx p s m args meth c D ca A cc own nL ret) (w : Wd A s D (CW ca ad σ) H locs) (hl : ls.size = nL) {k index : Nat} {x z q : Int32} (hq : kcopied k x z = some q) (h1 : Cond.methodLink own index yX5_copied ∈ WL) (hR : 3 ≤ R.frames ∧ 150 ≤ R.locals) (hW : (rest.map fun v => v.category).sum ≤ 8) (hdg : decode cc pc = .ok (.invokevirtual index, 3)) :
    va_Run p l e R s m args below meth c H locs 0 0 0 0 (F0 m pc ls (.int z :: .int x :: .ref (ad (31 + k)) :: rest)) rest (PostI D (va_A (CW ca ad σ) H.size) (CW ca ad σ) q ((.ref (ad (31 + k)) :: [.int x, .int z] : List Value).toArray)) (va_A (CW ca ad σ) H.size) := by
  match k, hq with
  | 0, hq => exact run_V (As := [.int x, .int z]) (rest := rest) C w hl (recvC31 C w) (c_X5_copied l D ca _ (ad 31) ⟨31, 4, [], (RX5, TX5, 0), rfl, rfl⟩ x z _ q hq) rfl rfl h1 wl_472 wl_484 wl_14 wl_473 hd_X5_copied rfl ⟨Nat.le_trans (Nat.le_of_ble_eq_true rfl) hR.1, Nat.le_trans (Nat.le_of_ble_eq_true rfl) hR.2⟩ rfl hW hdg
  | 1, hq => exact va_runU (As := [.int x, .int z]) (rest := rest) C.fix (c_X0_copied l D ca _ (ad 32) ⟨32, 0, [], (RX0, TX0, 0), rfl, rfl⟩ x z _ q hq) (va_cwO (owner := "BarkPost$Plain") (x := yX5_copied) 2 C.ts (gO h1 wl_465 wl_466 wl_467 wl_468 wl_17 wl_469) rfl rfl rfl wl_473 (by decide +kernel) ⟨Nat.le_trans (Nat.le_of_ble_eq_true rfl) hR.1, Nat.le_trans (Nat.le_of_ble_eq_true rfl) hR.2⟩) ⟨blind D ca _ H.size _, recvC32 C w, preW C w _⟩ rfl rfl hl rfl (lv_room hW) hdg ⟨Nat.zero_le _, Nat.zero_le _⟩
  | 2, hq => exact va_runU (As := [.int x, .int z]) (rest := rest) C.fix (c_X5_copied l D ca _ (ad 33) ⟨33, 3, [], (RX4, TX4, 0), rfl, rfl⟩ x z _ q hq) (va_cwU (owner := "BarkPost$Plain") (x := yX5_copied) 2 C.ts (gU h1 wl_465 wl_482 wl_472 wl_14 wl_473) rfl rfl rfl rfl (by decide +kernel) ⟨Nat.le_trans (Nat.le_of_ble_eq_true rfl) hR.1, Nat.le_trans (Nat.le_of_ble_eq_true rfl) hR.2⟩) ⟨blind D ca _ H.size _, recvC33 C w, preW C w _⟩ rfl rfl hl rfl (lv_room hW) hdg ⟨Nat.zero_le _, Nat.zero_le _⟩
  | 3, hq => exact va_runU (As := [.int x, .int z]) (rest := rest) C.fix (c_X1_copied l D ca _ (ad 34) ⟨34, 1, [], (RX1, TX1, 0), rfl, rfl⟩ x z _ q hq) (va_cwO (owner := "BarkPost$Plain") (x := yX5_copied) 2 C.ts (gO h1 wl_465 wl_466 wl_474 wl_475 wl_23 wl_476) rfl rfl rfl wl_473 (by decide +kernel) ⟨Nat.le_trans (Nat.le_of_ble_eq_true rfl) hR.1, Nat.le_trans (Nat.le_of_ble_eq_true rfl) hR.2⟩) ⟨blind D ca _ H.size _, recvC34 C w, preW C w _⟩ rfl rfl hl rfl (lv_room hW) hdg ⟨Nat.zero_le _, Nat.zero_le _⟩
  | 4, hq => exact va_runU (As := [.int x, .int z]) (rest := rest) C.fix (c_X8_copied l D ca _ (ad 35) ⟨35, 7, [], (RX8, TX8, 0), rfl, rfl⟩ x z _ q hq) (va_cwO (owner := "BarkPost$Plain") (x := yX5_copied) 2 C.ts (gO h1 wl_465 wl_466 wl_491 wl_492 wl_26 wl_493) rfl rfl rfl wl_473 (by decide +kernel) ⟨Nat.le_trans (Nat.le_of_ble_eq_true rfl) hR.1, Nat.le_trans (Nat.le_of_ble_eq_true rfl) hR.2⟩) ⟨blind D ca _ H.size _, recvC35 C w, preW C w _⟩ rfl rfl hl rfl (lv_room hW) hdg ⟨Nat.zero_le _, Nat.zero_le _⟩
  | 5, hq => exact va_runU (As := [.int x, .int z]) (rest := rest) C.fix (c_X6_copied l D ca _ (ad 36) ⟨36, 5, [], (RX6, TX6, 0), rfl, rfl⟩ x z _ q hq) (va_cwO (owner := "BarkPost$Plain") (x := yX5_copied) 2 C.ts (gO h1 wl_465 wl_466 wl_485 wl_486 wl_29 wl_487) rfl rfl rfl wl_473 (by decide +kernel) ⟨Nat.le_trans (Nat.le_of_ble_eq_true rfl) hR.1, Nat.le_trans (Nat.le_of_ble_eq_true rfl) hR.2⟩) ⟨blind D ca _ H.size _, recvC36 C w, preW C w _⟩ rfl rfl hl rfl (lv_room hW) hdg ⟨Nat.zero_le _, Nat.zero_le _⟩
  | k + 6, hq => exact absurd hq (by simp [kcopied])
theorem run_lasts (C : Cx p s m args meth c D ca A cc own nL ret) (w : Wd A s D (CW ca ad σ) H locs) (hl : ls.size = nL) {k index : Nat} {z q : Int32} (hq : klasts k z = some q) (h1 : Cond.methodLink own index yX5_lasts ∈ WL) (hR : 3 ≤ R.frames ∧ 150 ≤ R.locals) (hW : (rest.map fun v => v.category).sum ≤ 8) (hdg : decode cc pc = .ok (.invokevirtual index, 3)) :
    va_Run p l e R s m args below meth c H locs 0 0 0 0 (F0 m pc ls (.int z :: .ref (ad (31 + k)) :: rest)) rest (PostI D (va_A (CW ca ad σ) H.size) (CW ca ad σ) q ((.ref (ad (31 + k)) :: [.int z] : List Value).toArray)) (va_A (CW ca ad σ) H.size) := by
  match k, hq with
  | 0, hq => exact run_V (As := [.int z]) (rest := rest) C w hl (recvC31 C w) (c_X5_lasts l D ca _ (ad 31) ⟨31, 4, [], (RX5, TX5, 0), rfl, rfl⟩ z _ q hq) rfl rfl h1 wl_500 wl_510 wl_14 wl_501 hd_X5_lasts rfl ⟨Nat.le_trans (Nat.le_of_ble_eq_true rfl) hR.1, Nat.le_trans (Nat.le_of_ble_eq_true rfl) hR.2⟩ rfl hW hdg
  | 1, hq => exact va_runU (As := [.int z]) (rest := rest) C.fix (c_X5_lasts l D ca _ (ad 32) ⟨32, 0, [], (RX0, TX0, 0), rfl, rfl⟩ z _ q hq) (va_cwU (owner := "BarkPost$Plain") (x := yX5_lasts) 1 C.ts (gU h1 wl_498 wl_499 wl_500 wl_14 wl_501) rfl rfl rfl rfl (by decide +kernel) ⟨Nat.le_trans (Nat.le_of_ble_eq_true rfl) hR.1, Nat.le_trans (Nat.le_of_ble_eq_true rfl) hR.2⟩) ⟨blind D ca _ H.size _, recvC32 C w, preW C w _⟩ rfl rfl hl rfl (lv_room hW) hdg ⟨Nat.zero_le _, Nat.zero_le _⟩
  | 2, hq => exact va_runU (As := [.int z]) (rest := rest) C.fix (c_X4_lasts l D ca _ (ad 33) ⟨33, 3, [], (RX4, TX4, 0), rfl, rfl⟩ z _ q hq) (va_cwO (owner := "BarkPost$Plain") (x := yX5_lasts) 1 C.ts (gO h1 wl_498 wl_503 wl_504 wl_505 wl_20 wl_506) rfl rfl rfl wl_501 (by decide +kernel) ⟨Nat.le_trans (Nat.le_of_ble_eq_true rfl) hR.1, Nat.le_trans (Nat.le_of_ble_eq_true rfl) hR.2⟩) ⟨blind D ca _ H.size _, recvC33 C w, preW C w _⟩ rfl rfl hl rfl (lv_room hW) hdg ⟨Nat.zero_le _, Nat.zero_le _⟩
  | 3, hq => exact va_runU (As := [.int z]) (rest := rest) C.fix (c_X5_lasts l D ca _ (ad 34) ⟨34, 1, [], (RX1, TX1, 0), rfl, rfl⟩ z _ q hq) (va_cwU (owner := "BarkPost$Plain") (x := yX5_lasts) 1 C.ts (gU h1 wl_498 wl_502 wl_500 wl_14 wl_501) rfl rfl rfl rfl (by decide +kernel) ⟨Nat.le_trans (Nat.le_of_ble_eq_true rfl) hR.1, Nat.le_trans (Nat.le_of_ble_eq_true rfl) hR.2⟩) ⟨blind D ca _ H.size _, recvC34 C w, preW C w _⟩ rfl rfl hl rfl (lv_room hW) hdg ⟨Nat.zero_le _, Nat.zero_le _⟩
  | 4, hq => exact va_runU (As := [.int z]) (rest := rest) C.fix (c_X8_lasts l D ca _ (ad 35) ⟨35, 7, [], (RX8, TX8, 0), rfl, rfl⟩ z _ q hq) (va_cwO (owner := "BarkPost$Plain") (x := yX5_lasts) 1 C.ts (gO h1 wl_498 wl_503 wl_514 wl_515 wl_26 wl_516) rfl rfl rfl wl_501 (by decide +kernel) ⟨Nat.le_trans (Nat.le_of_ble_eq_true rfl) hR.1, Nat.le_trans (Nat.le_of_ble_eq_true rfl) hR.2⟩) ⟨blind D ca _ H.size _, recvC35 C w, preW C w _⟩ rfl rfl hl rfl (lv_room hW) hdg ⟨Nat.zero_le _, Nat.zero_le _⟩
  | 5, hq => exact va_runU (As := [.int z]) (rest := rest) C.fix (c_X6_lasts l D ca _ (ad 36) ⟨36, 5, [], (RX6, TX6, 0), rfl, rfl⟩ z _ q hq) (va_cwO (owner := "BarkPost$Plain") (x := yX5_lasts) 1 C.ts (gO h1 wl_498 wl_503 wl_511 wl_512 wl_29 wl_513) rfl rfl rfl wl_501 (by decide +kernel) ⟨Nat.le_trans (Nat.le_of_ble_eq_true rfl) hR.1, Nat.le_trans (Nat.le_of_ble_eq_true rfl) hR.2⟩) ⟨blind D ca _ H.size _, recvC36 C w, preW C w _⟩ rfl rfl hl rfl (lv_room hW) hdg ⟨Nat.zero_le _, Nat.zero_le _⟩
  | k + 6, hq => exact absurd hq (by simp [klasts])
end DISP
