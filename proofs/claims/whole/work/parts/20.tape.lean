/-! The tape: a word of four bytes, on either side; feed. -/
/-- a word put on the tape at t -/
def tp4 (f : Nat → Int32) (t : Nat) (w : Int32) : Nat → Int32 := upd (upd (upd (upd f t (am_bn 2 ((w >>> (24 &&& 31)).toInt8.toInt32))) (t + 1) (am_bn 2 ((w >>> (16 &&& 31)).toInt8.toInt32))) (t + 2) (am_bn 2 ((w >>> (8 &&& 31)).toInt8.toInt32))) (t + 3) (am_bn 2 ((w >>> (0 &&& 31)).toInt8.toInt32))
set_option maxHeartbeats 4000000 in
set_option maxRecDepth 100000 in
theorem w_put (t : Nat) (w : Int32) (f : Nat → Int32) (h : am_H) (c_0 : h[0]? = some (.inr (0, [.ref 1, .int (nI t), .ref 2, .ref 7, .ref 9, .ref 10, .ref 16, .ref 20]))) (c_1 : h[1]? = some (.inl (2, 400, .inl f))) (ht : t + 4 ≤ 400) : am_Me am_Pr none 0 0 0 0 11 [.ref 0, .int w] h (fun r h' => r = none ∧ h'[0]? = some (.inr (0, [.ref 1, .int (nI (t + 4)), .ref 2, .ref 7, .ref 9, .ref 10, .ref 16, .ref 20])) ∧ h'[1]? = some (.inl (2, 400, .inl (tp4 f t w))) ∧ (∀ q, q ∉ ([0, 1] : List Nat) → h'[q]? = h[q]?) ∧ h'.length = h.length) := by
  refine am_enter (d := hd_Ho_putOnTape) rfl (by decide +kernel) (Nat.le_of_ble_eq_true rfl) ?_
  show am_S _ _ _ _ _ _ _ (0, [some (.ref 0), some (.int w), none], [], h, 0, 0) _
  refine am_steps ok_Ho_putOnTape 5 (x' := (8, [some (.ref 0), some (.int w), some (.int 24)], [.ref 0], h, 0, 0)) rfl (Nat.le_of_ble_eq_true rfl) (Nat.le_of_ble_eq_true rfl) ?_
  refine ar_get ok_Ho_putOnTape rfl c_0 (v := .int (nI t)) rfl (pc' := 11) rfl (Nat.le_of_ble_eq_true rfl) (Nat.le_of_ble_eq_true rfl) ?_
  refine am_steps ok_Ho_putOnTape 2 (x' := (if (400 : Int32) ≤ (nI t) then 46 else 17, [some (.ref 0), some (.int w), some (.int 24)], [], h, 0, 0)) rfl (Nat.le_of_ble_eq_true rfl) (Nat.le_of_ble_eq_true rfl) ?_
  refine am_if (fun hc1 => ?_) (fun hc1 => ?_)
  · have hn2 : 400 ≤ t := am_leN (a := 400) (b := t) (by omega) (by omega) hc1
    omega
  · have hn3 : t < 400 := am_nleN (a := 400) (b := t) (by omega) hc1
    refine am_steps ok_Ho_putOnTape 1 (x' := (18, [some (.ref 0), some (.int w), some (.int 24)], [.ref 0], h, 0, 0)) rfl (Nat.le_of_ble_eq_true rfl) (Nat.le_of_ble_eq_true rfl) ?_
    refine ar_get ok_Ho_putOnTape rfl c_0 (v := .ref 1) rfl (pc' := 21) rfl (Nat.le_of_ble_eq_true rfl) (Nat.le_of_ble_eq_true rfl) ?_
    refine am_steps ok_Ho_putOnTape 1 (x' := (22, [some (.ref 0), some (.int w), some (.int 24)], [.ref 0, .ref 1], h, 0, 0)) rfl (Nat.le_of_ble_eq_true rfl) (Nat.le_of_ble_eq_true rfl) ?_
    refine ar_get ok_Ho_putOnTape rfl c_0 (v := .int (nI t)) rfl (pc' := 25) rfl (Nat.le_of_ble_eq_true rfl) (Nat.le_of_ble_eq_true rfl) ?_
    refine am_steps ok_Ho_putOnTape 4 (x' := (29, [some (.ref 0), some (.int w), some (.int 24)], [.int (((w >>> (24 &&& 31))).toInt8.toInt32), .int (nI t), .ref 1], h, 0, 0)) rfl (Nat.le_of_ble_eq_true rfl) (Nat.le_of_ble_eq_true rfl) ?_
    refine ar_bast ok_Ho_putOnTape rfl c_1 (Or.inl rfl) (jx := t) (am_ixN (by omega) (by decide)) (pc' := 30) rfl (Nat.le_of_ble_eq_true rfl) (Nat.le_of_ble_eq_true rfl) (fun h4 e5 e6 e7 => ?_)
    have c8 := (e6 0 (by decide)).trans c_0
    have fr9 : ∀ q, q ∉ ([1] : List Nat) → h4[q]? = h[q]? := fun q hq => e6 q (fun z => hq (by rw [z]; decide))
    have ln10 : h4.length = h.length := e7
    refine am_steps ok_Ho_putOnTape 2 (x' := (32, [some (.ref 0), some (.int w), some (.int 24)], [.ref 0, .ref 0], h4, 0, 0)) rfl (Nat.le_of_ble_eq_true rfl) (Nat.le_of_ble_eq_true rfl) ?_
    refine ar_get ok_Ho_putOnTape rfl c8 (v := .int (nI t)) rfl (pc' := 35) rfl (Nat.le_of_ble_eq_true rfl) (Nat.le_of_ble_eq_true rfl) ?_
    refine am_steps ok_Ho_putOnTape 1 (x' := (36, [some (.ref 0), some (.int w), some (.int 24)], [.int 1, .int (nI t), .ref 0], h4, 0, 0)) rfl (Nat.le_of_ble_eq_true rfl) (Nat.le_of_ble_eq_true rfl) ?_
    refine ar_iadd ok_Ho_putOnTape rfl (w := (nI (t + 1))) (am_nadd t 1) (pc' := 37) rfl (Nat.le_of_ble_eq_true rfl) (Nat.le_of_ble_eq_true rfl) ?_
    refine ar_put ok_Ho_putOnTape rfl c8 (Nat.le_of_ble_eq_true rfl) rfl (fs' := [.ref 1, .int (nI (t + 1)), .ref 2, .ref 7, .ref 9, .ref 10, .ref 16, .ref 20]) rfl (pc' := 40) rfl (Nat.le_of_ble_eq_true rfl) (Nat.le_of_ble_eq_true rfl) (fun h11 e12 e13 e14 => ?_)
    have c15 := (e13 1 (by decide)).trans e5
    have fr16 : ∀ q, q ∉ ([1, 0] : List Nat) → h11[q]? = h[q]? := fun q hq => (e13 q (fun z => hq (by rw [z]; decide))).trans (fr9 q (am_sub (by decide) hq))
    have ln17 : h11.length = h.length := e14.trans ln10
    refine am_steps ok_Ho_putOnTape 5 (x' := (8, [some (.ref 0), some (.int w), some (.int 16)], [.ref 0], h11, 0, 0)) rfl (Nat.le_of_ble_eq_true rfl) (Nat.le_of_ble_eq_true rfl) ?_
    refine ar_get ok_Ho_putOnTape rfl e12 (v := .int (nI (t + 1))) rfl (pc' := 11) rfl (Nat.le_of_ble_eq_true rfl) (Nat.le_of_ble_eq_true rfl) ?_
    refine am_steps ok_Ho_putOnTape 2 (x' := (if (400 : Int32) ≤ (nI (t + 1)) then 46 else 17, [some (.ref 0), some (.int w), some (.int 16)], [], h11, 0, 0)) rfl (Nat.le_of_ble_eq_true rfl) (Nat.le_of_ble_eq_true rfl) ?_
    refine am_if (fun hc18 => ?_) (fun hc18 => ?_)
    · have hn19 : 400 ≤ (t + 1) := am_leN (a := 400) (b := (t + 1)) (by omega) (by omega) hc18
      omega
    · have hn20 : (t + 1) < 400 := am_nleN (a := 400) (b := (t + 1)) (by omega) hc18
      refine am_steps ok_Ho_putOnTape 1 (x' := (18, [some (.ref 0), some (.int w), some (.int 16)], [.ref 0], h11, 0, 0)) rfl (Nat.le_of_ble_eq_true rfl) (Nat.le_of_ble_eq_true rfl) ?_
      refine ar_get ok_Ho_putOnTape rfl e12 (v := .ref 1) rfl (pc' := 21) rfl (Nat.le_of_ble_eq_true rfl) (Nat.le_of_ble_eq_true rfl) ?_
      refine am_steps ok_Ho_putOnTape 1 (x' := (22, [some (.ref 0), some (.int w), some (.int 16)], [.ref 0, .ref 1], h11, 0, 0)) rfl (Nat.le_of_ble_eq_true rfl) (Nat.le_of_ble_eq_true rfl) ?_
      refine ar_get ok_Ho_putOnTape rfl e12 (v := .int (nI (t + 1))) rfl (pc' := 25) rfl (Nat.le_of_ble_eq_true rfl) (Nat.le_of_ble_eq_true rfl) ?_
      refine am_steps ok_Ho_putOnTape 4 (x' := (29, [some (.ref 0), some (.int w), some (.int 16)], [.int (((w >>> (16 &&& 31))).toInt8.toInt32), .int (nI (t + 1)), .ref 1], h11, 0, 0)) rfl (Nat.le_of_ble_eq_true rfl) (Nat.le_of_ble_eq_true rfl) ?_
      refine ar_bast ok_Ho_putOnTape rfl c15 (Or.inl rfl) (jx := (t + 1)) (am_ixN (by omega) (by decide)) (pc' := 30) rfl (Nat.le_of_ble_eq_true rfl) (Nat.le_of_ble_eq_true rfl) (fun h21 e22 e23 e24 => ?_)
      have c25 := (e23 0 (by decide)).trans e12
      have fr26 : ∀ q, q ∉ ([1, 0] : List Nat) → h21[q]? = h[q]? := fun q hq => (e23 q (fun z => hq (by rw [z]; decide))).trans (fr16 q (am_sub (by decide) hq))
      have ln27 : h21.length = h.length := e24.trans ln17
      refine am_steps ok_Ho_putOnTape 2 (x' := (32, [some (.ref 0), some (.int w), some (.int 16)], [.ref 0, .ref 0], h21, 0, 0)) rfl (Nat.le_of_ble_eq_true rfl) (Nat.le_of_ble_eq_true rfl) ?_
      refine ar_get ok_Ho_putOnTape rfl c25 (v := .int (nI (t + 1))) rfl (pc' := 35) rfl (Nat.le_of_ble_eq_true rfl) (Nat.le_of_ble_eq_true rfl) ?_
      refine am_steps ok_Ho_putOnTape 1 (x' := (36, [some (.ref 0), some (.int w), some (.int 16)], [.int 1, .int (nI (t + 1)), .ref 0], h21, 0, 0)) rfl (Nat.le_of_ble_eq_true rfl) (Nat.le_of_ble_eq_true rfl) ?_
      refine ar_iadd ok_Ho_putOnTape rfl (w := (nI (t + 2))) (am_nadd (t + 1) 1) (pc' := 37) rfl (Nat.le_of_ble_eq_true rfl) (Nat.le_of_ble_eq_true rfl) ?_
      refine ar_put ok_Ho_putOnTape rfl c25 (Nat.le_of_ble_eq_true rfl) rfl (fs' := [.ref 1, .int (nI (t + 2)), .ref 2, .ref 7, .ref 9, .ref 10, .ref 16, .ref 20]) rfl (pc' := 40) rfl (Nat.le_of_ble_eq_true rfl) (Nat.le_of_ble_eq_true rfl) (fun h28 e29 e30 e31 => ?_)
      have c32 := (e30 1 (by decide)).trans e22
      have fr33 : ∀ q, q ∉ ([1, 0] : List Nat) → h28[q]? = h[q]? := fun q hq => (e30 q (fun z => hq (by rw [z]; decide))).trans (fr26 q (am_sub (by decide) hq))
      have ln34 : h28.length = h.length := e31.trans ln27
      refine am_steps ok_Ho_putOnTape 5 (x' := (8, [some (.ref 0), some (.int w), some (.int 8)], [.ref 0], h28, 0, 0)) rfl (Nat.le_of_ble_eq_true rfl) (Nat.le_of_ble_eq_true rfl) ?_
      refine ar_get ok_Ho_putOnTape rfl e29 (v := .int (nI (t + 2))) rfl (pc' := 11) rfl (Nat.le_of_ble_eq_true rfl) (Nat.le_of_ble_eq_true rfl) ?_
      refine am_steps ok_Ho_putOnTape 2 (x' := (if (400 : Int32) ≤ (nI (t + 2)) then 46 else 17, [some (.ref 0), some (.int w), some (.int 8)], [], h28, 0, 0)) rfl (Nat.le_of_ble_eq_true rfl) (Nat.le_of_ble_eq_true rfl) ?_
      refine am_if (fun hc35 => ?_) (fun hc35 => ?_)
      · have hn36 : 400 ≤ (t + 2) := am_leN (a := 400) (b := (t + 2)) (by omega) (by omega) hc35
        omega
      · have hn37 : (t + 2) < 400 := am_nleN (a := 400) (b := (t + 2)) (by omega) hc35
        refine am_steps ok_Ho_putOnTape 1 (x' := (18, [some (.ref 0), some (.int w), some (.int 8)], [.ref 0], h28, 0, 0)) rfl (Nat.le_of_ble_eq_true rfl) (Nat.le_of_ble_eq_true rfl) ?_
        refine ar_get ok_Ho_putOnTape rfl e29 (v := .ref 1) rfl (pc' := 21) rfl (Nat.le_of_ble_eq_true rfl) (Nat.le_of_ble_eq_true rfl) ?_
        refine am_steps ok_Ho_putOnTape 1 (x' := (22, [some (.ref 0), some (.int w), some (.int 8)], [.ref 0, .ref 1], h28, 0, 0)) rfl (Nat.le_of_ble_eq_true rfl) (Nat.le_of_ble_eq_true rfl) ?_
        refine ar_get ok_Ho_putOnTape rfl e29 (v := .int (nI (t + 2))) rfl (pc' := 25) rfl (Nat.le_of_ble_eq_true rfl) (Nat.le_of_ble_eq_true rfl) ?_
        refine am_steps ok_Ho_putOnTape 4 (x' := (29, [some (.ref 0), some (.int w), some (.int 8)], [.int (((w >>> (8 &&& 31))).toInt8.toInt32), .int (nI (t + 2)), .ref 1], h28, 0, 0)) rfl (Nat.le_of_ble_eq_true rfl) (Nat.le_of_ble_eq_true rfl) ?_
        refine ar_bast ok_Ho_putOnTape rfl c32 (Or.inl rfl) (jx := (t + 2)) (am_ixN (by omega) (by decide)) (pc' := 30) rfl (Nat.le_of_ble_eq_true rfl) (Nat.le_of_ble_eq_true rfl) (fun h38 e39 e40 e41 => ?_)
        have c42 := (e40 0 (by decide)).trans e29
        have fr43 : ∀ q, q ∉ ([1, 0] : List Nat) → h38[q]? = h[q]? := fun q hq => (e40 q (fun z => hq (by rw [z]; decide))).trans (fr33 q (am_sub (by decide) hq))
        have ln44 : h38.length = h.length := e41.trans ln34
        refine am_steps ok_Ho_putOnTape 2 (x' := (32, [some (.ref 0), some (.int w), some (.int 8)], [.ref 0, .ref 0], h38, 0, 0)) rfl (Nat.le_of_ble_eq_true rfl) (Nat.le_of_ble_eq_true rfl) ?_
        refine ar_get ok_Ho_putOnTape rfl c42 (v := .int (nI (t + 2))) rfl (pc' := 35) rfl (Nat.le_of_ble_eq_true rfl) (Nat.le_of_ble_eq_true rfl) ?_
        refine am_steps ok_Ho_putOnTape 1 (x' := (36, [some (.ref 0), some (.int w), some (.int 8)], [.int 1, .int (nI (t + 2)), .ref 0], h38, 0, 0)) rfl (Nat.le_of_ble_eq_true rfl) (Nat.le_of_ble_eq_true rfl) ?_
        refine ar_iadd ok_Ho_putOnTape rfl (w := (nI (t + 3))) (am_nadd (t + 2) 1) (pc' := 37) rfl (Nat.le_of_ble_eq_true rfl) (Nat.le_of_ble_eq_true rfl) ?_
        refine ar_put ok_Ho_putOnTape rfl c42 (Nat.le_of_ble_eq_true rfl) rfl (fs' := [.ref 1, .int (nI (t + 3)), .ref 2, .ref 7, .ref 9, .ref 10, .ref 16, .ref 20]) rfl (pc' := 40) rfl (Nat.le_of_ble_eq_true rfl) (Nat.le_of_ble_eq_true rfl) (fun h45 e46 e47 e48 => ?_)
        have c49 := (e47 1 (by decide)).trans e39
        have fr50 : ∀ q, q ∉ ([1, 0] : List Nat) → h45[q]? = h[q]? := fun q hq => (e47 q (fun z => hq (by rw [z]; decide))).trans (fr43 q (am_sub (by decide) hq))
        have ln51 : h45.length = h.length := e48.trans ln44
        refine am_steps ok_Ho_putOnTape 5 (x' := (8, [some (.ref 0), some (.int w), some (.int 0)], [.ref 0], h45, 0, 0)) rfl (Nat.le_of_ble_eq_true rfl) (Nat.le_of_ble_eq_true rfl) ?_
        refine ar_get ok_Ho_putOnTape rfl e46 (v := .int (nI (t + 3))) rfl (pc' := 11) rfl (Nat.le_of_ble_eq_true rfl) (Nat.le_of_ble_eq_true rfl) ?_
        refine am_steps ok_Ho_putOnTape 2 (x' := (if (400 : Int32) ≤ (nI (t + 3)) then 46 else 17, [some (.ref 0), some (.int w), some (.int 0)], [], h45, 0, 0)) rfl (Nat.le_of_ble_eq_true rfl) (Nat.le_of_ble_eq_true rfl) ?_
        refine am_if (fun hc52 => ?_) (fun hc52 => ?_)
        · have hn53 : 400 ≤ (t + 3) := am_leN (a := 400) (b := (t + 3)) (by omega) (by omega) hc52
          omega
        · have hn54 : (t + 3) < 400 := am_nleN (a := 400) (b := (t + 3)) (by omega) hc52
          refine am_steps ok_Ho_putOnTape 1 (x' := (18, [some (.ref 0), some (.int w), some (.int 0)], [.ref 0], h45, 0, 0)) rfl (Nat.le_of_ble_eq_true rfl) (Nat.le_of_ble_eq_true rfl) ?_
          refine ar_get ok_Ho_putOnTape rfl e46 (v := .ref 1) rfl (pc' := 21) rfl (Nat.le_of_ble_eq_true rfl) (Nat.le_of_ble_eq_true rfl) ?_
          refine am_steps ok_Ho_putOnTape 1 (x' := (22, [some (.ref 0), some (.int w), some (.int 0)], [.ref 0, .ref 1], h45, 0, 0)) rfl (Nat.le_of_ble_eq_true rfl) (Nat.le_of_ble_eq_true rfl) ?_
          refine ar_get ok_Ho_putOnTape rfl e46 (v := .int (nI (t + 3))) rfl (pc' := 25) rfl (Nat.le_of_ble_eq_true rfl) (Nat.le_of_ble_eq_true rfl) ?_
          refine am_steps ok_Ho_putOnTape 4 (x' := (29, [some (.ref 0), some (.int w), some (.int 0)], [.int (((w >>> (0 &&& 31))).toInt8.toInt32), .int (nI (t + 3)), .ref 1], h45, 0, 0)) rfl (Nat.le_of_ble_eq_true rfl) (Nat.le_of_ble_eq_true rfl) ?_
          refine ar_bast ok_Ho_putOnTape rfl c49 (Or.inl rfl) (jx := (t + 3)) (am_ixN (by omega) (by decide)) (pc' := 30) rfl (Nat.le_of_ble_eq_true rfl) (Nat.le_of_ble_eq_true rfl) (fun h55 e56 e57 e58 => ?_)
          have c59 := (e57 0 (by decide)).trans e46
          have fr60 : ∀ q, q ∉ ([1, 0] : List Nat) → h55[q]? = h[q]? := fun q hq => (e57 q (fun z => hq (by rw [z]; decide))).trans (fr50 q (am_sub (by decide) hq))
          have ln61 : h55.length = h.length := e58.trans ln51
          refine am_steps ok_Ho_putOnTape 2 (x' := (32, [some (.ref 0), some (.int w), some (.int 0)], [.ref 0, .ref 0], h55, 0, 0)) rfl (Nat.le_of_ble_eq_true rfl) (Nat.le_of_ble_eq_true rfl) ?_
          refine ar_get ok_Ho_putOnTape rfl c59 (v := .int (nI (t + 3))) rfl (pc' := 35) rfl (Nat.le_of_ble_eq_true rfl) (Nat.le_of_ble_eq_true rfl) ?_
          refine am_steps ok_Ho_putOnTape 1 (x' := (36, [some (.ref 0), some (.int w), some (.int 0)], [.int 1, .int (nI (t + 3)), .ref 0], h55, 0, 0)) rfl (Nat.le_of_ble_eq_true rfl) (Nat.le_of_ble_eq_true rfl) ?_
          refine ar_iadd ok_Ho_putOnTape rfl (w := (nI (t + 4))) (am_nadd (t + 3) 1) (pc' := 37) rfl (Nat.le_of_ble_eq_true rfl) (Nat.le_of_ble_eq_true rfl) ?_
          refine ar_put ok_Ho_putOnTape rfl c59 (Nat.le_of_ble_eq_true rfl) rfl (fs' := [.ref 1, .int (nI (t + 4)), .ref 2, .ref 7, .ref 9, .ref 10, .ref 16, .ref 20]) rfl (pc' := 40) rfl (Nat.le_of_ble_eq_true rfl) (Nat.le_of_ble_eq_true rfl) (fun h62 e63 e64 e65 => ?_)
          have c66 := (e64 1 (by decide)).trans e56
          have fr67 : ∀ q, q ∉ ([1, 0] : List Nat) → h62[q]? = h[q]? := fun q hq => (e64 q (fun z => hq (by rw [z]; decide))).trans (fr60 q (am_sub (by decide) hq))
          have ln68 : h62.length = h.length := e65.trans ln61
          refine am_steps ok_Ho_putOnTape 4 (x' := (46, [some (.ref 0), some (.int w), some (.int (-8))], [], h62, 0, 0)) rfl (Nat.le_of_ble_eq_true rfl) (Nat.le_of_ble_eq_true rfl) ?_
          exact am_ret ok_Ho_putOnTape rfl (Nat.le_of_ble_eq_true rfl) (Nat.le_of_ble_eq_true rfl) ⟨rfl, e63, c66, fun q hq => fr67 q (am_sub (by decide) hq), ln68⟩
set_option maxHeartbeats 4000000 in
set_option maxRecDepth 100000 in
theorem x_push (t : Nat) (w : Int32) (f : Nat → Int32) (fs : List Value) (h : am_H) (hlen : fs.length = 62) (k_0 : fs[0]? = some (.ref 23)) (k_1 : fs[1]? = some (.int (nI t))) (c_23 : h[23]? = some (.inl (2, 400, .inl f))) (c_22 : h[22]? = some (.inr (1, fs))) (ht : t + 4 ≤ 400) : am_Me am_Pr none 0 0 0 0 14 [.ref 22, .int w] h (fun r h' => r = none ∧ h'[22]? = some (.inr (1, (fs.set 1 (.int (nI (t + 4)))))) ∧ h'[23]? = some (.inl (2, 400, .inl (tp4 f t w))) ∧ (∀ q, q ∉ ([22, 23] : List Nat) → h'[q]? = h[q]?) ∧ h'.length = h.length) := by
  refine am_enter (d := hd_Mo_push) rfl (by decide +kernel) (Nat.le_of_ble_eq_true rfl) ?_
  show am_S _ _ _ _ _ _ _ (0, [some (.ref 22), some (.int w), none], [], h, 0, 0) _
  refine am_steps ok_Mo_push 5 (x' := (8, [some (.ref 22), some (.int w), some (.int 24)], [.ref 22], h, 0, 0)) rfl (Nat.le_of_ble_eq_true rfl) (Nat.le_of_ble_eq_true rfl) ?_
  refine ar_get ok_Mo_push rfl c_22 (v := .ref 23) k_0 (pc' := 11) rfl (Nat.le_of_ble_eq_true rfl) (Nat.le_of_ble_eq_true rfl) ?_
  refine am_steps ok_Mo_push 1 (x' := (12, [some (.ref 22), some (.int w), some (.int 24)], [.ref 22, .ref 23], h, 0, 0)) rfl (Nat.le_of_ble_eq_true rfl) (Nat.le_of_ble_eq_true rfl) ?_
  refine ar_get ok_Mo_push rfl c_22 (v := .int (nI t)) k_1 (pc' := 15) rfl (Nat.le_of_ble_eq_true rfl) (Nat.le_of_ble_eq_true rfl) ?_
  refine am_steps ok_Mo_push 4 (x' := (19, [some (.ref 22), some (.int w), some (.int 24)], [.int (((w >>> (24 &&& 31))).toInt8.toInt32), .int (nI t), .ref 23], h, 0, 0)) rfl (Nat.le_of_ble_eq_true rfl) (Nat.le_of_ble_eq_true rfl) ?_
  refine ar_bast ok_Mo_push rfl c_23 (Or.inl rfl) (jx := t) (am_ixN (by omega) (by decide)) (pc' := 20) rfl (Nat.le_of_ble_eq_true rfl) (Nat.le_of_ble_eq_true rfl) (fun h1 e2 e3 e4 => ?_)
  have c5 := (e3 22 (by decide)).trans c_22
  have fr6 : ∀ q, q ∉ ([23] : List Nat) → h1[q]? = h[q]? := fun q hq => e3 q (fun z => hq (by rw [z]; decide))
  have ln7 : h1.length = h.length := e4
  refine am_steps ok_Mo_push 2 (x' := (22, [some (.ref 22), some (.int w), some (.int 24)], [.ref 22, .ref 22], h1, 0, 0)) rfl (Nat.le_of_ble_eq_true rfl) (Nat.le_of_ble_eq_true rfl) ?_
  refine ar_get ok_Mo_push rfl c5 (v := .int (nI t)) k_1 (pc' := 25) rfl (Nat.le_of_ble_eq_true rfl) (Nat.le_of_ble_eq_true rfl) ?_
  refine am_steps ok_Mo_push 1 (x' := (26, [some (.ref 22), some (.int w), some (.int 24)], [.int 1, .int (nI t), .ref 22], h1, 0, 0)) rfl (Nat.le_of_ble_eq_true rfl) (Nat.le_of_ble_eq_true rfl) ?_
  refine ar_iadd ok_Mo_push rfl (w := (nI (t + 1))) (am_nadd t 1) (pc' := 27) rfl (Nat.le_of_ble_eq_true rfl) (Nat.le_of_ble_eq_true rfl) ?_
  refine ar_put ok_Mo_push rfl c5 (by rw [hlen]; decide) rfl (fs' := (fs.set 1 (.int (nI (t + 1))))) rfl (pc' := 30) rfl (Nat.le_of_ble_eq_true rfl) (Nat.le_of_ble_eq_true rfl) (fun h8 e9 e10 e11 => ?_)
  have k12 := (List.getElem?_set_ne (l := fs) (a := .int (nI (t + 1))) (show 1 ≠ 0 by decide)).trans k_0
  have k13 : (fs.set 1 (.int (nI (t + 1))))[1]? = some (.int (nI (t + 1))) := List.getElem?_set_self (by rw [hlen]; decide)
  have k14 : (fs.set 1 (.int (nI (t + 1)))).length = 62 := by rw [List.length_set]; exact hlen
  have c15 := (e10 23 (by decide)).trans e2
  have fr16 : ∀ q, q ∉ ([23, 22] : List Nat) → h8[q]? = h[q]? := fun q hq => (e10 q (fun z => hq (by rw [z]; decide))).trans (fr6 q (am_sub (by decide) hq))
  have ln17 : h8.length = h.length := e11.trans ln7
  refine am_steps ok_Mo_push 5 (x' := (8, [some (.ref 22), some (.int w), some (.int 16)], [.ref 22], h8, 0, 0)) rfl (Nat.le_of_ble_eq_true rfl) (Nat.le_of_ble_eq_true rfl) ?_
  refine ar_get ok_Mo_push rfl e9 (v := .ref 23) k12 (pc' := 11) rfl (Nat.le_of_ble_eq_true rfl) (Nat.le_of_ble_eq_true rfl) ?_
  refine am_steps ok_Mo_push 1 (x' := (12, [some (.ref 22), some (.int w), some (.int 16)], [.ref 22, .ref 23], h8, 0, 0)) rfl (Nat.le_of_ble_eq_true rfl) (Nat.le_of_ble_eq_true rfl) ?_
  refine ar_get ok_Mo_push rfl e9 (v := .int (nI (t + 1))) k13 (pc' := 15) rfl (Nat.le_of_ble_eq_true rfl) (Nat.le_of_ble_eq_true rfl) ?_
  refine am_steps ok_Mo_push 4 (x' := (19, [some (.ref 22), some (.int w), some (.int 16)], [.int (((w >>> (16 &&& 31))).toInt8.toInt32), .int (nI (t + 1)), .ref 23], h8, 0, 0)) rfl (Nat.le_of_ble_eq_true rfl) (Nat.le_of_ble_eq_true rfl) ?_
  refine ar_bast ok_Mo_push rfl c15 (Or.inl rfl) (jx := (t + 1)) (am_ixN (by omega) (by decide)) (pc' := 20) rfl (Nat.le_of_ble_eq_true rfl) (Nat.le_of_ble_eq_true rfl) (fun h18 e19 e20 e21 => ?_)
  have c22 := (e20 22 (by decide)).trans e9
  have fr23 : ∀ q, q ∉ ([23, 22] : List Nat) → h18[q]? = h[q]? := fun q hq => (e20 q (fun z => hq (by rw [z]; decide))).trans (fr16 q (am_sub (by decide) hq))
  have ln24 : h18.length = h.length := e21.trans ln17
  refine am_steps ok_Mo_push 2 (x' := (22, [some (.ref 22), some (.int w), some (.int 16)], [.ref 22, .ref 22], h18, 0, 0)) rfl (Nat.le_of_ble_eq_true rfl) (Nat.le_of_ble_eq_true rfl) ?_
  refine ar_get ok_Mo_push rfl c22 (v := .int (nI (t + 1))) k13 (pc' := 25) rfl (Nat.le_of_ble_eq_true rfl) (Nat.le_of_ble_eq_true rfl) ?_
  refine am_steps ok_Mo_push 1 (x' := (26, [some (.ref 22), some (.int w), some (.int 16)], [.int 1, .int (nI (t + 1)), .ref 22], h18, 0, 0)) rfl (Nat.le_of_ble_eq_true rfl) (Nat.le_of_ble_eq_true rfl) ?_
  refine ar_iadd ok_Mo_push rfl (w := (nI (t + 2))) (am_nadd (t + 1) 1) (pc' := 27) rfl (Nat.le_of_ble_eq_true rfl) (Nat.le_of_ble_eq_true rfl) ?_
  refine ar_put ok_Mo_push rfl c22 (by rw [k14]; decide) rfl (fs' := ((fs.set 1 (.int (nI (t + 1)))).set 1 (.int (nI (t + 2))))) rfl (pc' := 30) rfl (Nat.le_of_ble_eq_true rfl) (Nat.le_of_ble_eq_true rfl) (fun h25 e26 e27 e28 => ?_)
  have k29 := (List.getElem?_set_ne (l := (fs.set 1 (.int (nI (t + 1))))) (a := .int (nI (t + 2))) (show 1 ≠ 0 by decide)).trans k12
  have k30 : ((fs.set 1 (.int (nI (t + 1)))).set 1 (.int (nI (t + 2))))[1]? = some (.int (nI (t + 2))) := List.getElem?_set_self (by rw [k14]; decide)
  have k31 : ((fs.set 1 (.int (nI (t + 1)))).set 1 (.int (nI (t + 2)))).length = 62 := by rw [List.length_set]; exact k14
  have c32 := (e27 23 (by decide)).trans e19
  have fr33 : ∀ q, q ∉ ([23, 22] : List Nat) → h25[q]? = h[q]? := fun q hq => (e27 q (fun z => hq (by rw [z]; decide))).trans (fr23 q (am_sub (by decide) hq))
  have ln34 : h25.length = h.length := e28.trans ln24
  refine am_steps ok_Mo_push 5 (x' := (8, [some (.ref 22), some (.int w), some (.int 8)], [.ref 22], h25, 0, 0)) rfl (Nat.le_of_ble_eq_true rfl) (Nat.le_of_ble_eq_true rfl) ?_
  refine ar_get ok_Mo_push rfl e26 (v := .ref 23) k29 (pc' := 11) rfl (Nat.le_of_ble_eq_true rfl) (Nat.le_of_ble_eq_true rfl) ?_
  refine am_steps ok_Mo_push 1 (x' := (12, [some (.ref 22), some (.int w), some (.int 8)], [.ref 22, .ref 23], h25, 0, 0)) rfl (Nat.le_of_ble_eq_true rfl) (Nat.le_of_ble_eq_true rfl) ?_
  refine ar_get ok_Mo_push rfl e26 (v := .int (nI (t + 2))) k30 (pc' := 15) rfl (Nat.le_of_ble_eq_true rfl) (Nat.le_of_ble_eq_true rfl) ?_
  refine am_steps ok_Mo_push 4 (x' := (19, [some (.ref 22), some (.int w), some (.int 8)], [.int (((w >>> (8 &&& 31))).toInt8.toInt32), .int (nI (t + 2)), .ref 23], h25, 0, 0)) rfl (Nat.le_of_ble_eq_true rfl) (Nat.le_of_ble_eq_true rfl) ?_
  refine ar_bast ok_Mo_push rfl c32 (Or.inl rfl) (jx := (t + 2)) (am_ixN (by omega) (by decide)) (pc' := 20) rfl (Nat.le_of_ble_eq_true rfl) (Nat.le_of_ble_eq_true rfl) (fun h35 e36 e37 e38 => ?_)
  have c39 := (e37 22 (by decide)).trans e26
  have fr40 : ∀ q, q ∉ ([23, 22] : List Nat) → h35[q]? = h[q]? := fun q hq => (e37 q (fun z => hq (by rw [z]; decide))).trans (fr33 q (am_sub (by decide) hq))
  have ln41 : h35.length = h.length := e38.trans ln34
  refine am_steps ok_Mo_push 2 (x' := (22, [some (.ref 22), some (.int w), some (.int 8)], [.ref 22, .ref 22], h35, 0, 0)) rfl (Nat.le_of_ble_eq_true rfl) (Nat.le_of_ble_eq_true rfl) ?_
  refine ar_get ok_Mo_push rfl c39 (v := .int (nI (t + 2))) k30 (pc' := 25) rfl (Nat.le_of_ble_eq_true rfl) (Nat.le_of_ble_eq_true rfl) ?_
  refine am_steps ok_Mo_push 1 (x' := (26, [some (.ref 22), some (.int w), some (.int 8)], [.int 1, .int (nI (t + 2)), .ref 22], h35, 0, 0)) rfl (Nat.le_of_ble_eq_true rfl) (Nat.le_of_ble_eq_true rfl) ?_
  refine ar_iadd ok_Mo_push rfl (w := (nI (t + 3))) (am_nadd (t + 2) 1) (pc' := 27) rfl (Nat.le_of_ble_eq_true rfl) (Nat.le_of_ble_eq_true rfl) ?_
  refine ar_put ok_Mo_push rfl c39 (by rw [k31]; decide) rfl (fs' := (((fs.set 1 (.int (nI (t + 1)))).set 1 (.int (nI (t + 2)))).set 1 (.int (nI (t + 3))))) rfl (pc' := 30) rfl (Nat.le_of_ble_eq_true rfl) (Nat.le_of_ble_eq_true rfl) (fun h42 e43 e44 e45 => ?_)
  have k46 := (List.getElem?_set_ne (l := ((fs.set 1 (.int (nI (t + 1)))).set 1 (.int (nI (t + 2))))) (a := .int (nI (t + 3))) (show 1 ≠ 0 by decide)).trans k29
  have k47 : (((fs.set 1 (.int (nI (t + 1)))).set 1 (.int (nI (t + 2)))).set 1 (.int (nI (t + 3))))[1]? = some (.int (nI (t + 3))) := List.getElem?_set_self (by rw [k31]; decide)
  have k48 : (((fs.set 1 (.int (nI (t + 1)))).set 1 (.int (nI (t + 2)))).set 1 (.int (nI (t + 3)))).length = 62 := by rw [List.length_set]; exact k31
  have c49 := (e44 23 (by decide)).trans e36
  have fr50 : ∀ q, q ∉ ([23, 22] : List Nat) → h42[q]? = h[q]? := fun q hq => (e44 q (fun z => hq (by rw [z]; decide))).trans (fr40 q (am_sub (by decide) hq))
  have ln51 : h42.length = h.length := e45.trans ln41
  refine am_steps ok_Mo_push 5 (x' := (8, [some (.ref 22), some (.int w), some (.int 0)], [.ref 22], h42, 0, 0)) rfl (Nat.le_of_ble_eq_true rfl) (Nat.le_of_ble_eq_true rfl) ?_
  refine ar_get ok_Mo_push rfl e43 (v := .ref 23) k46 (pc' := 11) rfl (Nat.le_of_ble_eq_true rfl) (Nat.le_of_ble_eq_true rfl) ?_
  refine am_steps ok_Mo_push 1 (x' := (12, [some (.ref 22), some (.int w), some (.int 0)], [.ref 22, .ref 23], h42, 0, 0)) rfl (Nat.le_of_ble_eq_true rfl) (Nat.le_of_ble_eq_true rfl) ?_
  refine ar_get ok_Mo_push rfl e43 (v := .int (nI (t + 3))) k47 (pc' := 15) rfl (Nat.le_of_ble_eq_true rfl) (Nat.le_of_ble_eq_true rfl) ?_
  refine am_steps ok_Mo_push 4 (x' := (19, [some (.ref 22), some (.int w), some (.int 0)], [.int (((w >>> (0 &&& 31))).toInt8.toInt32), .int (nI (t + 3)), .ref 23], h42, 0, 0)) rfl (Nat.le_of_ble_eq_true rfl) (Nat.le_of_ble_eq_true rfl) ?_
  refine ar_bast ok_Mo_push rfl c49 (Or.inl rfl) (jx := (t + 3)) (am_ixN (by omega) (by decide)) (pc' := 20) rfl (Nat.le_of_ble_eq_true rfl) (Nat.le_of_ble_eq_true rfl) (fun h52 e53 e54 e55 => ?_)
  have c56 := (e54 22 (by decide)).trans e43
  have fr57 : ∀ q, q ∉ ([23, 22] : List Nat) → h52[q]? = h[q]? := fun q hq => (e54 q (fun z => hq (by rw [z]; decide))).trans (fr50 q (am_sub (by decide) hq))
  have ln58 : h52.length = h.length := e55.trans ln51
  refine am_steps ok_Mo_push 2 (x' := (22, [some (.ref 22), some (.int w), some (.int 0)], [.ref 22, .ref 22], h52, 0, 0)) rfl (Nat.le_of_ble_eq_true rfl) (Nat.le_of_ble_eq_true rfl) ?_
  refine ar_get ok_Mo_push rfl c56 (v := .int (nI (t + 3))) k47 (pc' := 25) rfl (Nat.le_of_ble_eq_true rfl) (Nat.le_of_ble_eq_true rfl) ?_
  refine am_steps ok_Mo_push 1 (x' := (26, [some (.ref 22), some (.int w), some (.int 0)], [.int 1, .int (nI (t + 3)), .ref 22], h52, 0, 0)) rfl (Nat.le_of_ble_eq_true rfl) (Nat.le_of_ble_eq_true rfl) ?_
  refine ar_iadd ok_Mo_push rfl (w := (nI (t + 4))) (am_nadd (t + 3) 1) (pc' := 27) rfl (Nat.le_of_ble_eq_true rfl) (Nat.le_of_ble_eq_true rfl) ?_
  refine ar_put ok_Mo_push rfl c56 (by rw [k48]; decide) rfl (fs' := ((((fs.set 1 (.int (nI (t + 1)))).set 1 (.int (nI (t + 2)))).set 1 (.int (nI (t + 3)))).set 1 (.int (nI (t + 4))))) rfl (pc' := 30) rfl (Nat.le_of_ble_eq_true rfl) (Nat.le_of_ble_eq_true rfl) (fun h59 e60 e61 e62 => ?_)
  have k63 := (List.getElem?_set_ne (l := (((fs.set 1 (.int (nI (t + 1)))).set 1 (.int (nI (t + 2)))).set 1 (.int (nI (t + 3))))) (a := .int (nI (t + 4))) (show 1 ≠ 0 by decide)).trans k46
  have k64 : ((((fs.set 1 (.int (nI (t + 1)))).set 1 (.int (nI (t + 2)))).set 1 (.int (nI (t + 3)))).set 1 (.int (nI (t + 4))))[1]? = some (.int (nI (t + 4))) := List.getElem?_set_self (by rw [k48]; decide)
  have k65 : ((((fs.set 1 (.int (nI (t + 1)))).set 1 (.int (nI (t + 2)))).set 1 (.int (nI (t + 3)))).set 1 (.int (nI (t + 4)))).length = 62 := by rw [List.length_set]; exact k48
  have c66 := (e61 23 (by decide)).trans e53
  have fr67 : ∀ q, q ∉ ([23, 22] : List Nat) → h59[q]? = h[q]? := fun q hq => (e61 q (fun z => hq (by rw [z]; decide))).trans (fr57 q (am_sub (by decide) hq))
  have ln68 : h59.length = h.length := e62.trans ln58
  refine am_steps ok_Mo_push 4 (x' := (36, [some (.ref 22), some (.int w), some (.int (-8))], [], h59, 0, 0)) rfl (Nat.le_of_ble_eq_true rfl) (Nat.le_of_ble_eq_true rfl) ?_
  exact am_ret ok_Mo_push rfl (Nat.le_of_ble_eq_true rfl) (Nat.le_of_ble_eq_true rfl) ⟨rfl, (by rw [e60]; simp only [List.set_set]), c66, fun q hq => fr67 q (am_sub (by decide) hq), ln68⟩
def tp20 (f : Nat → Int32) (t : Nat) (a b c d e : Int32) : Nat → Int32 := tp4 (tp4 (tp4 (tp4 (tp4 f t a) (t + 4) b) (t + 8) c) (t + 12) d) (t + 16) e
set_option maxHeartbeats 4000000 in
set_option maxRecDepth 100000 in
theorem w_feed (t : Nat) (a b c d e : Int32) (f : Nat → Int32) (h : am_H) (c_0 : h[0]? = some (.inr (0, [.ref 1, .int (nI t), .ref 2, .ref 7, .ref 9, .ref 10, .ref 16, .ref 20]))) (c_1 : h[1]? = some (.inl (2, 400, .inl f))) (ht : t + 20 ≤ 400) : am_Me am_Pr none 1 22 0 0 1 [.ref 0, .int a, .int b, .int c, .int d, .int e] h (fun r h' => r = some (.int 1) ∧ h'[0]? = some (.inr (0, [.ref 1, .int (nI (t + 20)), .ref 2, .ref 7, .ref 9, .ref 10, .ref 16, .ref 20])) ∧ h'[1]? = some (.inl (2, 400, .inl (tp20 f t a b c d e))) ∧ (∀ q, q ∉ ([0, 1] : List Nat) → h'[q]? = h[q]?) ∧ h'.length = h.length) := by
  refine am_enter (d := hd_Ho_feed) rfl (by decide +kernel) (Nat.le_of_ble_eq_true rfl) ?_
  show am_S _ _ _ _ _ _ _ (0, [some (.ref 0), some (.int a), some (.int b), some (.int c), some (.int d), some (.int e)], [], h, 0, 0) _
  refine am_steps ok_Ho_feed 1 (x' := (1, [some (.ref 0), some (.int a), some (.int b), some (.int c), some (.int d), some (.int e)], [.ref 0], h, 0, 0)) rfl (Nat.le_of_ble_eq_true rfl) (Nat.le_of_ble_eq_true rfl) ?_
  refine ar_get ok_Ho_feed rfl c_0 (v := .int (nI t)) rfl (pc' := 4) rfl (Nat.le_of_ble_eq_true rfl) (Nat.le_of_ble_eq_true rfl) ?_
  refine am_steps ok_Ho_feed 1 (x' := (6, [some (.ref 0), some (.int a), some (.int b), some (.int c), some (.int d), some (.int e)], [.int 20, .int (nI t)], h, 0, 0)) rfl (Nat.le_of_ble_eq_true rfl) (Nat.le_of_ble_eq_true rfl) ?_
  refine ar_iadd ok_Ho_feed rfl (w := (nI (t + 20))) (am_nadd t 20) (pc' := 7) rfl (Nat.le_of_ble_eq_true rfl) (Nat.le_of_ble_eq_true rfl) ?_
  refine am_steps ok_Ho_feed 2 (x' := (if ((nI (t + 20)) : Int32) ≤ 400 then 15 else 13, [some (.ref 0), some (.int a), some (.int b), some (.int c), some (.int d), some (.int e)], [], h, 0, 0)) rfl (Nat.le_of_ble_eq_true rfl) (Nat.le_of_ble_eq_true rfl) ?_
  refine am_if (fun hc1 => ?_) (fun hc1 => ?_)
  · have hn2 : (t + 20) ≤ 400 := am_leN (a := (t + 20)) (b := 400) (by omega) (by omega) hc1
    refine am_steps ok_Ho_feed 2 (x' := (17, [some (.ref 0), some (.int a), some (.int b), some (.int c), some (.int d), some (.int e)], [.int a, .ref 0], h, 0, 0)) rfl (Nat.le_of_ble_eq_true rfl) (Nat.le_of_ble_eq_true rfl) ?_
    refine ar_cv ok_Ho_feed hk_Ho_putOnTape rfl rfl (As := [.int a]) (ad := 0) (rest := []) rfl rfl c_0 (by decide) (w_put t a f h c_0 c_1 (by omega)) (Nat.le_of_ble_eq_true rfl) (Nat.le_of_ble_eq_true rfl) (Nat.le_of_ble_eq_true rfl) (Nat.le_of_ble_eq_true rfl) (pc' := 20) rfl (fun r3 h4 q5 => ?_)
    obtain ⟨rfl, e6, e7, f8, l9⟩ := q5
    show am_S _ _ _ _ _ _ _ (20, [some (.ref 0), some (.int a), some (.int b), some (.int c), some (.int d), some (.int e)], [], h4, 0, 0) _
    have fr10 : ∀ q, q ∉ ([0, 1] : List Nat) → h4[q]? = h[q]? := fun q hq => f8 q (am_sub (by decide) hq)
    have ln11 : h4.length = h.length := l9
    refine am_steps ok_Ho_feed 2 (x' := (22, [some (.ref 0), some (.int a), some (.int b), some (.int c), some (.int d), some (.int e)], [.int b, .ref 0], h4, 0, 0)) rfl (Nat.le_of_ble_eq_true rfl) (Nat.le_of_ble_eq_true rfl) ?_
    refine ar_cv ok_Ho_feed hk_Ho_putOnTape rfl rfl (As := [.int b]) (ad := 0) (rest := []) rfl rfl e6 (by decide) (w_put (t + 4) b (tp4 f t a) h4 e6 e7 (by omega)) (Nat.le_of_ble_eq_true rfl) (Nat.le_of_ble_eq_true rfl) (Nat.le_of_ble_eq_true rfl) (Nat.le_of_ble_eq_true rfl) (pc' := 25) rfl (fun r12 h13 q14 => ?_)
    obtain ⟨rfl, e15, e16, f17, l18⟩ := q14
    show am_S _ _ _ _ _ _ _ (25, [some (.ref 0), some (.int a), some (.int b), some (.int c), some (.int d), some (.int e)], [], h13, 0, 0) _
    have fr19 : ∀ q, q ∉ ([0, 1] : List Nat) → h13[q]? = h[q]? := fun q hq => (f17 q (am_sub (by decide) hq)).trans (fr10 q (am_sub (by decide) hq))
    have ln20 : h13.length = h.length := l18.trans ln11
    refine am_steps ok_Ho_feed 2 (x' := (27, [some (.ref 0), some (.int a), some (.int b), some (.int c), some (.int d), some (.int e)], [.int c, .ref 0], h13, 0, 0)) rfl (Nat.le_of_ble_eq_true rfl) (Nat.le_of_ble_eq_true rfl) ?_
    refine ar_cv ok_Ho_feed hk_Ho_putOnTape rfl rfl (As := [.int c]) (ad := 0) (rest := []) rfl rfl e15 (by decide) (w_put (t + 8) c (tp4 (tp4 f t a) (t + 4) b) h13 e15 e16 (by omega)) (Nat.le_of_ble_eq_true rfl) (Nat.le_of_ble_eq_true rfl) (Nat.le_of_ble_eq_true rfl) (Nat.le_of_ble_eq_true rfl) (pc' := 30) rfl (fun r21 h22 q23 => ?_)
    obtain ⟨rfl, e24, e25, f26, l27⟩ := q23
    show am_S _ _ _ _ _ _ _ (30, [some (.ref 0), some (.int a), some (.int b), some (.int c), some (.int d), some (.int e)], [], h22, 0, 0) _
    have fr28 : ∀ q, q ∉ ([0, 1] : List Nat) → h22[q]? = h[q]? := fun q hq => (f26 q (am_sub (by decide) hq)).trans (fr19 q (am_sub (by decide) hq))
    have ln29 : h22.length = h.length := l27.trans ln20
    refine am_steps ok_Ho_feed 2 (x' := (33, [some (.ref 0), some (.int a), some (.int b), some (.int c), some (.int d), some (.int e)], [.int d, .ref 0], h22, 0, 0)) rfl (Nat.le_of_ble_eq_true rfl) (Nat.le_of_ble_eq_true rfl) ?_
    refine ar_cv ok_Ho_feed hk_Ho_putOnTape rfl rfl (As := [.int d]) (ad := 0) (rest := []) rfl rfl e24 (by decide) (w_put (t + 12) d (tp4 (tp4 (tp4 f t a) (t + 4) b) (t + 8) c) h22 e24 e25 (by omega)) (Nat.le_of_ble_eq_true rfl) (Nat.le_of_ble_eq_true rfl) (Nat.le_of_ble_eq_true rfl) (Nat.le_of_ble_eq_true rfl) (pc' := 36) rfl (fun r30 h31 q32 => ?_)
    obtain ⟨rfl, e33, e34, f35, l36⟩ := q32
    show am_S _ _ _ _ _ _ _ (36, [some (.ref 0), some (.int a), some (.int b), some (.int c), some (.int d), some (.int e)], [], h31, 0, 0) _
    have fr37 : ∀ q, q ∉ ([0, 1] : List Nat) → h31[q]? = h[q]? := fun q hq => (f35 q (am_sub (by decide) hq)).trans (fr28 q (am_sub (by decide) hq))
    have ln38 : h31.length = h.length := l36.trans ln29
    refine am_steps ok_Ho_feed 2 (x' := (39, [some (.ref 0), some (.int a), some (.int b), some (.int c), some (.int d), some (.int e)], [.int e, .ref 0], h31, 0, 0)) rfl (Nat.le_of_ble_eq_true rfl) (Nat.le_of_ble_eq_true rfl) ?_
    refine ar_cv ok_Ho_feed hk_Ho_putOnTape rfl rfl (As := [.int e]) (ad := 0) (rest := []) rfl rfl e33 (by decide) (w_put (t + 16) e (tp4 (tp4 (tp4 (tp4 f t a) (t + 4) b) (t + 8) c) (t + 12) d) h31 e33 e34 (by omega)) (Nat.le_of_ble_eq_true rfl) (Nat.le_of_ble_eq_true rfl) (Nat.le_of_ble_eq_true rfl) (Nat.le_of_ble_eq_true rfl) (pc' := 42) rfl (fun r39 h40 q41 => ?_)
    obtain ⟨rfl, e42, e43, f44, l45⟩ := q41
    show am_S _ _ _ _ _ _ _ (42, [some (.ref 0), some (.int a), some (.int b), some (.int c), some (.int d), some (.int e)], [], h40, 0, 0) _
    have fr46 : ∀ q, q ∉ ([0, 1] : List Nat) → h40[q]? = h[q]? := fun q hq => (f44 q (am_sub (by decide) hq)).trans (fr37 q (am_sub (by decide) hq))
    have ln47 : h40.length = h.length := l45.trans ln38
    refine am_steps ok_Ho_feed 1 (x' := (43, [some (.ref 0), some (.int a), some (.int b), some (.int c), some (.int d), some (.int e)], [.int 1], h40, 0, 0)) rfl (Nat.le_of_ble_eq_true rfl) (Nat.le_of_ble_eq_true rfl) ?_
    exact am_ret ok_Ho_feed rfl (Nat.le_of_ble_eq_true rfl) (Nat.le_of_ble_eq_true rfl) ⟨rfl, e42, e43, fun q hq => fr46 q (am_sub (by decide) hq), ln47⟩
  · have hn48 : 400 < (t + 20) := am_nleN (a := (t + 20)) (b := 400) (by omega) hc1
    omega
set_option maxHeartbeats 4000000 in
set_option maxRecDepth 100000 in
theorem w_feed_no (t : Nat) (a b c d e : Int32) (f : Nat → Int32) (h : am_H) (c_0 : h[0]? = some (.inr (0, [.ref 1, .int (nI t), .ref 2, .ref 7, .ref 9, .ref 10, .ref 16, .ref 20]))) (ht : 400 < t + 20) (htt : t ≤ 400) : am_Me am_Pr none 1 22 0 0 1 [.ref 0, .int a, .int b, .int c, .int d, .int e] h (fun r h' => r = some (.int 0) ∧ (∀ q, q ∉ ([] : List Nat) → h'[q]? = h[q]?) ∧ h'.length = h.length) := by
  refine am_enter (d := hd_Ho_feed) rfl (by decide +kernel) (Nat.le_of_ble_eq_true rfl) ?_
  show am_S _ _ _ _ _ _ _ (0, [some (.ref 0), some (.int a), some (.int b), some (.int c), some (.int d), some (.int e)], [], h, 0, 0) _
  refine am_steps ok_Ho_feed 1 (x' := (1, [some (.ref 0), some (.int a), some (.int b), some (.int c), some (.int d), some (.int e)], [.ref 0], h, 0, 0)) rfl (Nat.le_of_ble_eq_true rfl) (Nat.le_of_ble_eq_true rfl) ?_
  refine ar_get ok_Ho_feed rfl c_0 (v := .int (nI t)) rfl (pc' := 4) rfl (Nat.le_of_ble_eq_true rfl) (Nat.le_of_ble_eq_true rfl) ?_
  refine am_steps ok_Ho_feed 1 (x' := (6, [some (.ref 0), some (.int a), some (.int b), some (.int c), some (.int d), some (.int e)], [.int 20, .int (nI t)], h, 0, 0)) rfl (Nat.le_of_ble_eq_true rfl) (Nat.le_of_ble_eq_true rfl) ?_
  refine ar_iadd ok_Ho_feed rfl (w := (nI (t + 20))) (am_nadd t 20) (pc' := 7) rfl (Nat.le_of_ble_eq_true rfl) (Nat.le_of_ble_eq_true rfl) ?_
  refine am_steps ok_Ho_feed 2 (x' := (if ((nI (t + 20)) : Int32) ≤ 400 then 15 else 13, [some (.ref 0), some (.int a), some (.int b), some (.int c), some (.int d), some (.int e)], [], h, 0, 0)) rfl (Nat.le_of_ble_eq_true rfl) (Nat.le_of_ble_eq_true rfl) ?_
  refine am_if (fun hc1 => ?_) (fun hc1 => ?_)
  · have hn2 : (t + 20) ≤ 400 := am_leN (a := (t + 20)) (b := 400) (by omega) (by omega) hc1
    omega
  · have hn3 : 400 < (t + 20) := am_nleN (a := (t + 20)) (b := 400) (by omega) hc1
    refine am_steps ok_Ho_feed 1 (x' := (14, [some (.ref 0), some (.int a), some (.int b), some (.int c), some (.int d), some (.int e)], [.int 0], h, 0, 0)) rfl (Nat.le_of_ble_eq_true rfl) (Nat.le_of_ble_eq_true rfl) ?_
    exact am_ret ok_Ho_feed rfl (Nat.le_of_ble_eq_true rfl) (Nat.le_of_ble_eq_true rfl) ⟨rfl, fun _ _ => rfl, rfl⟩
set_option maxHeartbeats 4000000 in
set_option maxRecDepth 100000 in
theorem x_feed (t : Nat) (a b c d e : Int32) (f : Nat → Int32) (fs : List Value) (h : am_H) (hlen : fs.length = 62) (k_0 : fs[0]? = some (.ref 23)) (k_1 : fs[1]? = some (.int (nI t))) (c_23 : h[23]? = some (.inl (2, 400, .inl f))) (c_22 : h[22]? = some (.inr (1, fs))) (ht : t + 20 ≤ 400) : am_Me am_Pr none 1 22 0 0 15 [.ref 22, .int a, .int b, .int c, .int d, .int e] h (fun r h' => r = some (.int 1) ∧ h'[22]? = some (.inr (1, (fs.set 1 (.int (nI (t + 20)))))) ∧ h'[23]? = some (.inl (2, 400, .inl (tp20 f t a b c d e))) ∧ (∀ q, q ∉ ([22, 23] : List Nat) → h'[q]? = h[q]?) ∧ h'.length = h.length) := by
  refine am_enter (d := hd_Mo_feed) rfl (by decide +kernel) (Nat.le_of_ble_eq_true rfl) ?_
  show am_S _ _ _ _ _ _ _ (0, [some (.ref 22), some (.int a), some (.int b), some (.int c), some (.int d), some (.int e)], [], h, 0, 0) _
  refine am_steps ok_Mo_feed 1 (x' := (1, [some (.ref 22), some (.int a), some (.int b), some (.int c), some (.int d), some (.int e)], [.ref 22], h, 0, 0)) rfl (Nat.le_of_ble_eq_true rfl) (Nat.le_of_ble_eq_true rfl) ?_
  refine ar_get ok_Mo_feed rfl c_22 (v := .int (nI t)) k_1 (pc' := 4) rfl (Nat.le_of_ble_eq_true rfl) (Nat.le_of_ble_eq_true rfl) ?_
  refine am_steps ok_Mo_feed 1 (x' := (6, [some (.ref 22), some (.int a), some (.int b), some (.int c), some (.int d), some (.int e)], [.int 20, .int (nI t)], h, 0, 0)) rfl (Nat.le_of_ble_eq_true rfl) (Nat.le_of_ble_eq_true rfl) ?_
  refine ar_iadd ok_Mo_feed rfl (w := (nI (t + 20))) (am_nadd t 20) (pc' := 7) rfl (Nat.le_of_ble_eq_true rfl) (Nat.le_of_ble_eq_true rfl) ?_
  refine am_steps ok_Mo_feed 2 (x' := (if ((nI (t + 20)) : Int32) ≤ 400 then 15 else 13, [some (.ref 22), some (.int a), some (.int b), some (.int c), some (.int d), some (.int e)], [], h, 0, 0)) rfl (Nat.le_of_ble_eq_true rfl) (Nat.le_of_ble_eq_true rfl) ?_
  refine am_if (fun hc1 => ?_) (fun hc1 => ?_)
  · have hn2 : (t + 20) ≤ 400 := am_leN (a := (t + 20)) (b := 400) (by omega) (by omega) hc1
    refine am_steps ok_Mo_feed 2 (x' := (17, [some (.ref 22), some (.int a), some (.int b), some (.int c), some (.int d), some (.int e)], [.int a, .ref 22], h, 0, 0)) rfl (Nat.le_of_ble_eq_true rfl) (Nat.le_of_ble_eq_true rfl) ?_
    refine ar_cv ok_Mo_feed hk_Mo_push rfl rfl (As := [.int a]) (ad := 22) (rest := []) rfl rfl c_22 (by decide) (x_push t a f fs h hlen k_0 k_1 c_23 c_22 (by omega)) (Nat.le_of_ble_eq_true rfl) (Nat.le_of_ble_eq_true rfl) (Nat.le_of_ble_eq_true rfl) (Nat.le_of_ble_eq_true rfl) (pc' := 20) rfl (fun r3 h4 q5 => ?_)
    obtain ⟨rfl, e6, e7, f8, l9⟩ := q5
    show am_S _ _ _ _ _ _ _ (20, [some (.ref 22), some (.int a), some (.int b), some (.int c), some (.int d), some (.int e)], [], h4, 0, 0) _
    have k10 := (List.getElem?_set_ne (l := fs) (a := .int (nI (t + 4))) (show 1 ≠ 0 by decide)).trans k_0
    have k11 : (fs.set 1 (.int (nI (t + 4))))[1]? = some (.int (nI (t + 4))) := List.getElem?_set_self (by rw [hlen]; decide)
    have k12 : (fs.set 1 (.int (nI (t + 4)))).length = 62 := by rw [List.length_set]; exact hlen
    have fr13 : ∀ q, q ∉ ([22, 23] : List Nat) → h4[q]? = h[q]? := fun q hq => f8 q (am_sub (by decide) hq)
    have ln14 : h4.length = h.length := l9
    refine am_steps ok_Mo_feed 2 (x' := (22, [some (.ref 22), some (.int a), some (.int b), some (.int c), some (.int d), some (.int e)], [.int b, .ref 22], h4, 0, 0)) rfl (Nat.le_of_ble_eq_true rfl) (Nat.le_of_ble_eq_true rfl) ?_
    refine ar_cv ok_Mo_feed hk_Mo_push rfl rfl (As := [.int b]) (ad := 22) (rest := []) rfl rfl e6 (by decide) (x_push (t + 4) b (tp4 f t a) (fs.set 1 (.int (nI (t + 4)))) h4 k12 k10 k11 e7 e6 (by omega)) (Nat.le_of_ble_eq_true rfl) (Nat.le_of_ble_eq_true rfl) (Nat.le_of_ble_eq_true rfl) (Nat.le_of_ble_eq_true rfl) (pc' := 25) rfl (fun r15 h16 q17 => ?_)
    obtain ⟨rfl, e18, e19, f20, l21⟩ := q17
    show am_S _ _ _ _ _ _ _ (25, [some (.ref 22), some (.int a), some (.int b), some (.int c), some (.int d), some (.int e)], [], h16, 0, 0) _
    have k22 := (List.getElem?_set_ne (l := (fs.set 1 (.int (nI (t + 4))))) (a := .int (nI (t + 8))) (show 1 ≠ 0 by decide)).trans k10
    have k23 : ((fs.set 1 (.int (nI (t + 4)))).set 1 (.int (nI (t + 8))))[1]? = some (.int (nI (t + 8))) := List.getElem?_set_self (by rw [k12]; decide)
    have k24 : ((fs.set 1 (.int (nI (t + 4)))).set 1 (.int (nI (t + 8)))).length = 62 := by rw [List.length_set]; exact k12
    have fr25 : ∀ q, q ∉ ([22, 23] : List Nat) → h16[q]? = h[q]? := fun q hq => (f20 q (am_sub (by decide) hq)).trans (fr13 q (am_sub (by decide) hq))
    have ln26 : h16.length = h.length := l21.trans ln14
    refine am_steps ok_Mo_feed 2 (x' := (27, [some (.ref 22), some (.int a), some (.int b), some (.int c), some (.int d), some (.int e)], [.int c, .ref 22], h16, 0, 0)) rfl (Nat.le_of_ble_eq_true rfl) (Nat.le_of_ble_eq_true rfl) ?_
    refine ar_cv ok_Mo_feed hk_Mo_push rfl rfl (As := [.int c]) (ad := 22) (rest := []) rfl rfl e18 (by decide) (x_push (t + 8) c (tp4 (tp4 f t a) (t + 4) b) ((fs.set 1 (.int (nI (t + 4)))).set 1 (.int (nI (t + 8)))) h16 k24 k22 k23 e19 e18 (by omega)) (Nat.le_of_ble_eq_true rfl) (Nat.le_of_ble_eq_true rfl) (Nat.le_of_ble_eq_true rfl) (Nat.le_of_ble_eq_true rfl) (pc' := 30) rfl (fun r27 h28 q29 => ?_)
    obtain ⟨rfl, e30, e31, f32, l33⟩ := q29
    show am_S _ _ _ _ _ _ _ (30, [some (.ref 22), some (.int a), some (.int b), some (.int c), some (.int d), some (.int e)], [], h28, 0, 0) _
    have k34 := (List.getElem?_set_ne (l := ((fs.set 1 (.int (nI (t + 4)))).set 1 (.int (nI (t + 8))))) (a := .int (nI (t + 12))) (show 1 ≠ 0 by decide)).trans k22
    have k35 : (((fs.set 1 (.int (nI (t + 4)))).set 1 (.int (nI (t + 8)))).set 1 (.int (nI (t + 12))))[1]? = some (.int (nI (t + 12))) := List.getElem?_set_self (by rw [k24]; decide)
    have k36 : (((fs.set 1 (.int (nI (t + 4)))).set 1 (.int (nI (t + 8)))).set 1 (.int (nI (t + 12)))).length = 62 := by rw [List.length_set]; exact k24
    have fr37 : ∀ q, q ∉ ([22, 23] : List Nat) → h28[q]? = h[q]? := fun q hq => (f32 q (am_sub (by decide) hq)).trans (fr25 q (am_sub (by decide) hq))
    have ln38 : h28.length = h.length := l33.trans ln26
    refine am_steps ok_Mo_feed 2 (x' := (33, [some (.ref 22), some (.int a), some (.int b), some (.int c), some (.int d), some (.int e)], [.int d, .ref 22], h28, 0, 0)) rfl (Nat.le_of_ble_eq_true rfl) (Nat.le_of_ble_eq_true rfl) ?_
    refine ar_cv ok_Mo_feed hk_Mo_push rfl rfl (As := [.int d]) (ad := 22) (rest := []) rfl rfl e30 (by decide) (x_push (t + 12) d (tp4 (tp4 (tp4 f t a) (t + 4) b) (t + 8) c) (((fs.set 1 (.int (nI (t + 4)))).set 1 (.int (nI (t + 8)))).set 1 (.int (nI (t + 12)))) h28 k36 k34 k35 e31 e30 (by omega)) (Nat.le_of_ble_eq_true rfl) (Nat.le_of_ble_eq_true rfl) (Nat.le_of_ble_eq_true rfl) (Nat.le_of_ble_eq_true rfl) (pc' := 36) rfl (fun r39 h40 q41 => ?_)
    obtain ⟨rfl, e42, e43, f44, l45⟩ := q41
    show am_S _ _ _ _ _ _ _ (36, [some (.ref 22), some (.int a), some (.int b), some (.int c), some (.int d), some (.int e)], [], h40, 0, 0) _
    have k46 := (List.getElem?_set_ne (l := (((fs.set 1 (.int (nI (t + 4)))).set 1 (.int (nI (t + 8)))).set 1 (.int (nI (t + 12))))) (a := .int (nI (t + 16))) (show 1 ≠ 0 by decide)).trans k34
    have k47 : ((((fs.set 1 (.int (nI (t + 4)))).set 1 (.int (nI (t + 8)))).set 1 (.int (nI (t + 12)))).set 1 (.int (nI (t + 16))))[1]? = some (.int (nI (t + 16))) := List.getElem?_set_self (by rw [k36]; decide)
    have k48 : ((((fs.set 1 (.int (nI (t + 4)))).set 1 (.int (nI (t + 8)))).set 1 (.int (nI (t + 12)))).set 1 (.int (nI (t + 16)))).length = 62 := by rw [List.length_set]; exact k36
    have fr49 : ∀ q, q ∉ ([22, 23] : List Nat) → h40[q]? = h[q]? := fun q hq => (f44 q (am_sub (by decide) hq)).trans (fr37 q (am_sub (by decide) hq))
    have ln50 : h40.length = h.length := l45.trans ln38
    refine am_steps ok_Mo_feed 2 (x' := (39, [some (.ref 22), some (.int a), some (.int b), some (.int c), some (.int d), some (.int e)], [.int e, .ref 22], h40, 0, 0)) rfl (Nat.le_of_ble_eq_true rfl) (Nat.le_of_ble_eq_true rfl) ?_
    refine ar_cv ok_Mo_feed hk_Mo_push rfl rfl (As := [.int e]) (ad := 22) (rest := []) rfl rfl e42 (by decide) (x_push (t + 16) e (tp4 (tp4 (tp4 (tp4 f t a) (t + 4) b) (t + 8) c) (t + 12) d) ((((fs.set 1 (.int (nI (t + 4)))).set 1 (.int (nI (t + 8)))).set 1 (.int (nI (t + 12)))).set 1 (.int (nI (t + 16)))) h40 k48 k46 k47 e43 e42 (by omega)) (Nat.le_of_ble_eq_true rfl) (Nat.le_of_ble_eq_true rfl) (Nat.le_of_ble_eq_true rfl) (Nat.le_of_ble_eq_true rfl) (pc' := 42) rfl (fun r51 h52 q53 => ?_)
    obtain ⟨rfl, e54, e55, f56, l57⟩ := q53
    show am_S _ _ _ _ _ _ _ (42, [some (.ref 22), some (.int a), some (.int b), some (.int c), some (.int d), some (.int e)], [], h52, 0, 0) _
    have k58 := (List.getElem?_set_ne (l := ((((fs.set 1 (.int (nI (t + 4)))).set 1 (.int (nI (t + 8)))).set 1 (.int (nI (t + 12)))).set 1 (.int (nI (t + 16))))) (a := .int (nI (t + 20))) (show 1 ≠ 0 by decide)).trans k46
    have k59 : (((((fs.set 1 (.int (nI (t + 4)))).set 1 (.int (nI (t + 8)))).set 1 (.int (nI (t + 12)))).set 1 (.int (nI (t + 16)))).set 1 (.int (nI (t + 20))))[1]? = some (.int (nI (t + 20))) := List.getElem?_set_self (by rw [k48]; decide)
    have k60 : (((((fs.set 1 (.int (nI (t + 4)))).set 1 (.int (nI (t + 8)))).set 1 (.int (nI (t + 12)))).set 1 (.int (nI (t + 16)))).set 1 (.int (nI (t + 20)))).length = 62 := by rw [List.length_set]; exact k48
    have fr61 : ∀ q, q ∉ ([22, 23] : List Nat) → h52[q]? = h[q]? := fun q hq => (f56 q (am_sub (by decide) hq)).trans (fr49 q (am_sub (by decide) hq))
    have ln62 : h52.length = h.length := l57.trans ln50
    refine am_steps ok_Mo_feed 1 (x' := (43, [some (.ref 22), some (.int a), some (.int b), some (.int c), some (.int d), some (.int e)], [.int 1], h52, 0, 0)) rfl (Nat.le_of_ble_eq_true rfl) (Nat.le_of_ble_eq_true rfl) ?_
    exact am_ret ok_Mo_feed rfl (Nat.le_of_ble_eq_true rfl) (Nat.le_of_ble_eq_true rfl) ⟨rfl, (by rw [e54]; simp only [List.set_set]), e55, fun q hq => fr61 q (am_sub (by decide) hq), ln62⟩
  · have hn63 : 400 < (t + 20) := am_nleN (a := (t + 20)) (b := 400) (by omega) hc1
    omega
set_option maxHeartbeats 4000000 in
set_option maxRecDepth 100000 in
theorem x_feed_no (t : Nat) (a b c d e : Int32) (f : Nat → Int32) (fs : List Value) (h : am_H) (hlen : fs.length = 62) (k_1 : fs[1]? = some (.int (nI t))) (c_22 : h[22]? = some (.inr (1, fs))) (ht : 400 < t + 20) (htt : t ≤ 400) : am_Me am_Pr none 1 22 0 0 15 [.ref 22, .int a, .int b, .int c, .int d, .int e] h (fun r h' => r = some (.int 0) ∧ h'[22]? = some (.inr (1, fs)) ∧ (∀ q, q ∉ ([22] : List Nat) → h'[q]? = h[q]?) ∧ h'.length = h.length) := by
  refine am_enter (d := hd_Mo_feed) rfl (by decide +kernel) (Nat.le_of_ble_eq_true rfl) ?_
  show am_S _ _ _ _ _ _ _ (0, [some (.ref 22), some (.int a), some (.int b), some (.int c), some (.int d), some (.int e)], [], h, 0, 0) _
  refine am_steps ok_Mo_feed 1 (x' := (1, [some (.ref 22), some (.int a), some (.int b), some (.int c), some (.int d), some (.int e)], [.ref 22], h, 0, 0)) rfl (Nat.le_of_ble_eq_true rfl) (Nat.le_of_ble_eq_true rfl) ?_
  refine ar_get ok_Mo_feed rfl c_22 (v := .int (nI t)) k_1 (pc' := 4) rfl (Nat.le_of_ble_eq_true rfl) (Nat.le_of_ble_eq_true rfl) ?_
  refine am_steps ok_Mo_feed 1 (x' := (6, [some (.ref 22), some (.int a), some (.int b), some (.int c), some (.int d), some (.int e)], [.int 20, .int (nI t)], h, 0, 0)) rfl (Nat.le_of_ble_eq_true rfl) (Nat.le_of_ble_eq_true rfl) ?_
  refine ar_iadd ok_Mo_feed rfl (w := (nI (t + 20))) (am_nadd t 20) (pc' := 7) rfl (Nat.le_of_ble_eq_true rfl) (Nat.le_of_ble_eq_true rfl) ?_
  refine am_steps ok_Mo_feed 2 (x' := (if ((nI (t + 20)) : Int32) ≤ 400 then 15 else 13, [some (.ref 22), some (.int a), some (.int b), some (.int c), some (.int d), some (.int e)], [], h, 0, 0)) rfl (Nat.le_of_ble_eq_true rfl) (Nat.le_of_ble_eq_true rfl) ?_
  refine am_if (fun hc1 => ?_) (fun hc1 => ?_)
  · have hn2 : (t + 20) ≤ 400 := am_leN (a := (t + 20)) (b := 400) (by omega) (by omega) hc1
    omega
  · have hn3 : 400 < (t + 20) := am_nleN (a := (t + 20)) (b := 400) (by omega) hc1
    refine am_steps ok_Mo_feed 1 (x' := (14, [some (.ref 22), some (.int a), some (.int b), some (.int c), some (.int d), some (.int e)], [.int 0], h, 0, 0)) rfl (Nat.le_of_ble_eq_true rfl) (Nat.le_of_ble_eq_true rfl) ?_
    exact am_ret ok_Mo_feed rfl (Nat.le_of_ble_eq_true rfl) (Nat.le_of_ble_eq_true rfl) ⟨rfl, c_22, fun _ _ => rfl, rfl⟩
