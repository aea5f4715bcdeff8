/-! The objects on their fresh state. -/
set_option maxHeartbeats 4000000 in
set_option maxRecDepth 100000 in
theorem c_put_0 (w : Int32) (f : Nat → Int32) (h : am_H) (c_0 : h[0]? = some (.inr (0, [.ref 1, .int 0, .ref 2, .ref 7, .ref 9, .ref 10, .ref 16, .ref 20]))) (c_1 : h[1]? = some (.inl (2, 400, .inl f)))  : am_Me am_Pr none 0 0 0 0 11 [.ref 0, .int w] h (fun r h' => r = none ∧ h'[0]? = some (.inr (0, [.ref 1, .int 4, .ref 2, .ref 7, .ref 9, .ref 10, .ref 16, .ref 20])) ∧ h'[1]? = some (.inl (2, 400, .inl (upd (upd (upd (upd f 0 (am_bn 2 ((((w >>> (24 &&& 31))).toInt8.toInt32)))) 1 (am_bn 2 ((((w >>> (16 &&& 31))).toInt8.toInt32)))) 2 (am_bn 2 ((((w >>> (8 &&& 31))).toInt8.toInt32)))) 3 (am_bn 2 ((((w >>> (0 &&& 31))).toInt8.toInt32)))))) ∧ (∀ q, q ∉ ([0, 1] : List Nat) → h'[q]? = h[q]?) ∧ h'.length = h.length) := by
  refine am_enter (d := hd_Ho_putOnTape) rfl (by decide +kernel) (Nat.le_of_ble_eq_true rfl) ?_
  show am_S _ _ _ _ _ _ _ (0, [some (.ref 0), some (.int w), none], [], h, 0, 0) _
  refine am_steps ok_Ho_putOnTape 5 (x' := (8, [some (.ref 0), some (.int w), some (.int 24)], [.ref 0], h, 0, 0)) rfl (Nat.le_of_ble_eq_true rfl) (Nat.le_of_ble_eq_true rfl) ?_
  refine ar_get ok_Ho_putOnTape rfl c_0 (v := .int 0) rfl (pc' := 11) rfl (Nat.le_of_ble_eq_true rfl) (Nat.le_of_ble_eq_true rfl) ?_
  refine am_steps ok_Ho_putOnTape 3 (x' := (18, [some (.ref 0), some (.int w), some (.int 24)], [.ref 0], h, 0, 0)) rfl (Nat.le_of_ble_eq_true rfl) (Nat.le_of_ble_eq_true rfl) ?_
  refine ar_get ok_Ho_putOnTape rfl c_0 (v := .ref 1) rfl (pc' := 21) rfl (Nat.le_of_ble_eq_true rfl) (Nat.le_of_ble_eq_true rfl) ?_
  refine am_steps ok_Ho_putOnTape 1 (x' := (22, [some (.ref 0), some (.int w), some (.int 24)], [.ref 0, .ref 1], h, 0, 0)) rfl (Nat.le_of_ble_eq_true rfl) (Nat.le_of_ble_eq_true rfl) ?_
  refine ar_get ok_Ho_putOnTape rfl c_0 (v := .int 0) rfl (pc' := 25) rfl (Nat.le_of_ble_eq_true rfl) (Nat.le_of_ble_eq_true rfl) ?_
  refine am_steps ok_Ho_putOnTape 4 (x' := (29, [some (.ref 0), some (.int w), some (.int 24)], [.int (((w >>> (24 &&& 31))).toInt8.toInt32), .int 0, .ref 1], h, 0, 0)) rfl (Nat.le_of_ble_eq_true rfl) (Nat.le_of_ble_eq_true rfl) ?_
  refine ar_bast ok_Ho_putOnTape rfl c_1 (Or.inl rfl) (jx := 0) rfl (pc' := 30) rfl (Nat.le_of_ble_eq_true rfl) (Nat.le_of_ble_eq_true rfl) (fun h1 e2 e3 e4 => ?_)
  have c5 := (e3 0 (by decide)).trans c_0
  have fr6 : ∀ q, q ∉ ([1] : List Nat) → h1[q]? = h[q]? := fun q hq => e3 q (fun z => hq (by rw [z]; decide))
  have ln7 : h1.length = h.length := e4
  refine am_steps ok_Ho_putOnTape 2 (x' := (32, [some (.ref 0), some (.int w), some (.int 24)], [.ref 0, .ref 0], h1, 0, 0)) rfl (Nat.le_of_ble_eq_true rfl) (Nat.le_of_ble_eq_true rfl) ?_
  refine ar_get ok_Ho_putOnTape rfl c5 (v := .int 0) rfl (pc' := 35) rfl (Nat.le_of_ble_eq_true rfl) (Nat.le_of_ble_eq_true rfl) ?_
  refine am_steps ok_Ho_putOnTape 2 (x' := (37, [some (.ref 0), some (.int w), some (.int 24)], [.int 1, .ref 0], h1, 0, 0)) rfl (Nat.le_of_ble_eq_true rfl) (Nat.le_of_ble_eq_true rfl) ?_
  refine ar_put ok_Ho_putOnTape rfl c5 (Nat.le_of_ble_eq_true rfl) rfl (fs' := [.ref 1, .int 1, .ref 2, .ref 7, .ref 9, .ref 10, .ref 16, .ref 20]) rfl (pc' := 40) rfl (Nat.le_of_ble_eq_true rfl) (Nat.le_of_ble_eq_true rfl) (fun h8 e9 e10 e11 => ?_)
  have c12 := (e10 1 (by decide)).trans e2
  have fr13 : ∀ q, q ∉ ([1, 0] : List Nat) → h8[q]? = h[q]? := fun q hq => (e10 q (fun z => hq (by rw [z]; decide))).trans (fr6 q (am_sub (by decide) hq))
  have ln14 : h8.length = h.length := e11.trans ln7
  refine am_steps ok_Ho_putOnTape 5 (x' := (8, [some (.ref 0), some (.int w), some (.int 16)], [.ref 0], h8, 0, 0)) rfl (Nat.le_of_ble_eq_true rfl) (Nat.le_of_ble_eq_true rfl) ?_
  refine ar_get ok_Ho_putOnTape rfl e9 (v := .int 1) rfl (pc' := 11) rfl (Nat.le_of_ble_eq_true rfl) (Nat.le_of_ble_eq_true rfl) ?_
  refine am_steps ok_Ho_putOnTape 3 (x' := (18, [some (.ref 0), some (.int w), some (.int 16)], [.ref 0], h8, 0, 0)) rfl (Nat.le_of_ble_eq_true rfl) (Nat.le_of_ble_eq_true rfl) ?_
  refine ar_get ok_Ho_putOnTape rfl e9 (v := .ref 1) rfl (pc' := 21) rfl (Nat.le_of_ble_eq_true rfl) (Nat.le_of_ble_eq_true rfl) ?_
  refine am_steps ok_Ho_putOnTape 1 (x' := (22, [some (.ref 0), some (.int w), some (.int 16)], [.ref 0, .ref 1], h8, 0, 0)) rfl (Nat.le_of_ble_eq_true rfl) (Nat.le_of_ble_eq_true rfl) ?_
  refine ar_get ok_Ho_putOnTape rfl e9 (v := .int 1) rfl (pc' := 25) rfl (Nat.le_of_ble_eq_true rfl) (Nat.le_of_ble_eq_true rfl) ?_
  refine am_steps ok_Ho_putOnTape 4 (x' := (29, [some (.ref 0), some (.int w), some (.int 16)], [.int (((w >>> (16 &&& 31))).toInt8.toInt32), .int 1, .ref 1], h8, 0, 0)) rfl (Nat.le_of_ble_eq_true rfl) (Nat.le_of_ble_eq_true rfl) ?_
  refine ar_bast ok_Ho_putOnTape rfl c12 (Or.inl rfl) (jx := 1) rfl (pc' := 30) rfl (Nat.le_of_ble_eq_true rfl) (Nat.le_of_ble_eq_true rfl) (fun h15 e16 e17 e18 => ?_)
  have c19 := (e17 0 (by decide)).trans e9
  have fr20 : ∀ q, q ∉ ([1, 0] : List Nat) → h15[q]? = h[q]? := fun q hq => (e17 q (fun z => hq (by rw [z]; decide))).trans (fr13 q (am_sub (by decide) hq))
  have ln21 : h15.length = h.length := e18.trans ln14
  refine am_steps ok_Ho_putOnTape 2 (x' := (32, [some (.ref 0), some (.int w), some (.int 16)], [.ref 0, .ref 0], h15, 0, 0)) rfl (Nat.le_of_ble_eq_true rfl) (Nat.le_of_ble_eq_true rfl) ?_
  refine ar_get ok_Ho_putOnTape rfl c19 (v := .int 1) rfl (pc' := 35) rfl (Nat.le_of_ble_eq_true rfl) (Nat.le_of_ble_eq_true rfl) ?_
  refine am_steps ok_Ho_putOnTape 2 (x' := (37, [some (.ref 0), some (.int w), some (.int 16)], [.int 2, .ref 0], h15, 0, 0)) rfl (Nat.le_of_ble_eq_true rfl) (Nat.le_of_ble_eq_true rfl) ?_
  refine ar_put ok_Ho_putOnTape rfl c19 (Nat.le_of_ble_eq_true rfl) rfl (fs' := [.ref 1, .int 2, .ref 2, .ref 7, .ref 9, .ref 10, .ref 16, .ref 20]) rfl (pc' := 40) rfl (Nat.le_of_ble_eq_true rfl) (Nat.le_of_ble_eq_true rfl) (fun h22 e23 e24 e25 => ?_)
  have c26 := (e24 1 (by decide)).trans e16
  have fr27 : ∀ q, q ∉ ([1, 0] : List Nat) → h22[q]? = h[q]? := fun q hq => (e24 q (fun z => hq (by rw [z]; decide))).trans (fr20 q (am_sub (by decide) hq))
  have ln28 : h22.length = h.length := e25.trans ln21
  refine am_steps ok_Ho_putOnTape 5 (x' := (8, [some (.ref 0), some (.int w), some (.int 8)], [.ref 0], h22, 0, 0)) rfl (Nat.le_of_ble_eq_true rfl) (Nat.le_of_ble_eq_true rfl) ?_
  refine ar_get ok_Ho_putOnTape rfl e23 (v := .int 2) rfl (pc' := 11) rfl (Nat.le_of_ble_eq_true rfl) (Nat.le_of_ble_eq_true rfl) ?_
  refine am_steps ok_Ho_putOnTape 3 (x' := (18, [some (.ref 0), some (.int w), some (.int 8)], [.ref 0], h22, 0, 0)) rfl (Nat.le_of_ble_eq_true rfl) (Nat.le_of_ble_eq_true rfl) ?_
  refine ar_get ok_Ho_putOnTape rfl e23 (v := .ref 1) rfl (pc' := 21) rfl (Nat.le_of_ble_eq_true rfl) (Nat.le_of_ble_eq_true rfl) ?_
  refine am_steps ok_Ho_putOnTape 1 (x' := (22, [some (.ref 0), some (.int w), some (.int 8)], [.ref 0, .ref 1], h22, 0, 0)) rfl (Nat.le_of_ble_eq_true rfl) (Nat.le_of_ble_eq_true rfl) ?_
  refine ar_get ok_Ho_putOnTape rfl e23 (v := .int 2) rfl (pc' := 25) rfl (Nat.le_of_ble_eq_true rfl) (Nat.le_of_ble_eq_true rfl) ?_
  refine am_steps ok_Ho_putOnTape 4 (x' := (29, [some (.ref 0), some (.int w), some (.int 8)], [.int (((w >>> (8 &&& 31))).toInt8.toInt32), .int 2, .ref 1], h22, 0, 0)) rfl (Nat.le_of_ble_eq_true rfl) (Nat.le_of_ble_eq_true rfl) ?_
  refine ar_bast ok_Ho_putOnTape rfl c26 (Or.inl rfl) (jx := 2) rfl (pc' := 30) rfl (Nat.le_of_ble_eq_true rfl) (Nat.le_of_ble_eq_true rfl) (fun h29 e30 e31 e32 => ?_)
  have c33 := (e31 0 (by decide)).trans e23
  have fr34 : ∀ q, q ∉ ([1, 0] : List Nat) → h29[q]? = h[q]? := fun q hq => (e31 q (fun z => hq (by rw [z]; decide))).trans (fr27 q (am_sub (by decide) hq))
  have ln35 : h29.length = h.length := e32.trans ln28
  refine am_steps ok_Ho_putOnTape 2 (x' := (32, [some (.ref 0), some (.int w), some (.int 8)], [.ref 0, .ref 0], h29, 0, 0)) rfl (Nat.le_of_ble_eq_true rfl) (Nat.le_of_ble_eq_true rfl) ?_
  refine ar_get ok_Ho_putOnTape rfl c33 (v := .int 2) rfl (pc' := 35) rfl (Nat.le_of_ble_eq_true rfl) (Nat.le_of_ble_eq_true rfl) ?_
  refine am_steps ok_Ho_putOnTape 2 (x' := (37, [some (.ref 0), some (.int w), some (.int 8)], [.int 3, .ref 0], h29, 0, 0)) rfl (Nat.le_of_ble_eq_true rfl) (Nat.le_of_ble_eq_true rfl) ?_
  refine ar_put ok_Ho_putOnTape rfl c33 (Nat.le_of_ble_eq_true rfl) rfl (fs' := [.ref 1, .int 3, .ref 2, .ref 7, .ref 9, .ref 10, .ref 16, .ref 20]) rfl (pc' := 40) rfl (Nat.le_of_ble_eq_true rfl) (Nat.le_of_ble_eq_true rfl) (fun h36 e37 e38 e39 => ?_)
  have c40 := (e38 1 (by decide)).trans e30
  have fr41 : ∀ q, q ∉ ([1, 0] : List Nat) → h36[q]? = h[q]? := fun q hq => (e38 q (fun z => hq (by rw [z]; decide))).trans (fr34 q (am_sub (by decide) hq))
  have ln42 : h36.length = h.length := e39.trans ln35
  refine am_steps ok_Ho_putOnTape 5 (x' := (8, [some (.ref 0), some (.int w), some (.int 0)], [.ref 0], h36, 0, 0)) rfl (Nat.le_of_ble_eq_true rfl) (Nat.le_of_ble_eq_true rfl) ?_
  refine ar_get ok_Ho_putOnTape rfl e37 (v := .int 3) rfl (pc' := 11) rfl (Nat.le_of_ble_eq_true rfl) (Nat.le_of_ble_eq_true rfl) ?_
  refine am_steps ok_Ho_putOnTape 3 (x' := (18, [some (.ref 0), some (.int w), some (.int 0)], [.ref 0], h36, 0, 0)) rfl (Nat.le_of_ble_eq_true rfl) (Nat.le_of_ble_eq_true rfl) ?_
  refine ar_get ok_Ho_putOnTape rfl e37 (v := .ref 1) rfl (pc' := 21) rfl (Nat.le_of_ble_eq_true rfl) (Nat.le_of_ble_eq_true rfl) ?_
  refine am_steps ok_Ho_putOnTape 1 (x' := (22, [some (.ref 0), some (.int w), some (.int 0)], [.ref 0, .ref 1], h36, 0, 0)) rfl (Nat.le_of_ble_eq_true rfl) (Nat.le_of_ble_eq_true rfl) ?_
  refine ar_get ok_Ho_putOnTape rfl e37 (v := .int 3) rfl (pc' := 25) rfl (Nat.le_of_ble_eq_true rfl) (Nat.le_of_ble_eq_true rfl) ?_
  refine am_steps ok_Ho_putOnTape 4 (x' := (29, [some (.ref 0), some (.int w), some (.int 0)], [.int (((w >>> (0 &&& 31))).toInt8.toInt32), .int 3, .ref 1], h36, 0, 0)) rfl (Nat.le_of_ble_eq_true rfl) (Nat.le_of_ble_eq_true rfl) ?_
  refine ar_bast ok_Ho_putOnTape rfl c40 (Or.inl rfl) (jx := 3) rfl (pc' := 30) rfl (Nat.le_of_ble_eq_true rfl) (Nat.le_of_ble_eq_true rfl) (fun h43 e44 e45 e46 => ?_)
  have c47 := (e45 0 (by decide)).trans e37
  have fr48 : ∀ q, q ∉ ([1, 0] : List Nat) → h43[q]? = h[q]? := fun q hq => (e45 q (fun z => hq (by rw [z]; decide))).trans (fr41 q (am_sub (by decide) hq))
  have ln49 : h43.length = h.length := e46.trans ln42
  refine am_steps ok_Ho_putOnTape 2 (x' := (32, [some (.ref 0), some (.int w), some (.int 0)], [.ref 0, .ref 0], h43, 0, 0)) rfl (Nat.le_of_ble_eq_true rfl) (Nat.le_of_ble_eq_true rfl) ?_
  refine ar_get ok_Ho_putOnTape rfl c47 (v := .int 3) rfl (pc' := 35) rfl (Nat.le_of_ble_eq_true rfl) (Nat.le_of_ble_eq_true rfl) ?_
  refine am_steps ok_Ho_putOnTape 2 (x' := (37, [some (.ref 0), some (.int w), some (.int 0)], [.int 4, .ref 0], h43, 0, 0)) rfl (Nat.le_of_ble_eq_true rfl) (Nat.le_of_ble_eq_true rfl) ?_
  refine ar_put ok_Ho_putOnTape rfl c47 (Nat.le_of_ble_eq_true rfl) rfl (fs' := [.ref 1, .int 4, .ref 2, .ref 7, .ref 9, .ref 10, .ref 16, .ref 20]) rfl (pc' := 40) rfl (Nat.le_of_ble_eq_true rfl) (Nat.le_of_ble_eq_true rfl) (fun h50 e51 e52 e53 => ?_)
  have c54 := (e52 1 (by decide)).trans e44
  have fr55 : ∀ q, q ∉ ([1, 0] : List Nat) → h50[q]? = h[q]? := fun q hq => (e52 q (fun z => hq (by rw [z]; decide))).trans (fr48 q (am_sub (by decide) hq))
  have ln56 : h50.length = h.length := e53.trans ln49
  refine am_steps ok_Ho_putOnTape 4 (x' := (46, [some (.ref 0), some (.int w), some (.int (-8))], [], h50, 0, 0)) rfl (Nat.le_of_ble_eq_true rfl) (Nat.le_of_ble_eq_true rfl) ?_
  exact am_ret ok_Ho_putOnTape rfl (Nat.le_of_ble_eq_true rfl) (Nat.le_of_ble_eq_true rfl) ⟨rfl, e51, c54, fun q hq => fr55 q (am_sub (by decide) hq), ln56⟩
set_option maxHeartbeats 4000000 in
set_option maxRecDepth 100000 in
theorem c_put_4 (w : Int32) (f : Nat → Int32) (h : am_H) (c_0 : h[0]? = some (.inr (0, [.ref 1, .int 4, .ref 2, .ref 7, .ref 9, .ref 10, .ref 16, .ref 20]))) (c_1 : h[1]? = some (.inl (2, 400, .inl f)))  : am_Me am_Pr none 0 0 0 0 11 [.ref 0, .int w] h (fun r h' => r = none ∧ h'[0]? = some (.inr (0, [.ref 1, .int 8, .ref 2, .ref 7, .ref 9, .ref 10, .ref 16, .ref 20])) ∧ h'[1]? = some (.inl (2, 400, .inl (upd (upd (upd (upd f 4 (am_bn 2 ((((w >>> (24 &&& 31))).toInt8.toInt32)))) 5 (am_bn 2 ((((w >>> (16 &&& 31))).toInt8.toInt32)))) 6 (am_bn 2 ((((w >>> (8 &&& 31))).toInt8.toInt32)))) 7 (am_bn 2 ((((w >>> (0 &&& 31))).toInt8.toInt32)))))) ∧ (∀ q, q ∉ ([0, 1] : List Nat) → h'[q]? = h[q]?) ∧ h'.length = h.length) := by
  refine am_enter (d := hd_Ho_putOnTape) rfl (by decide +kernel) (Nat.le_of_ble_eq_true rfl) ?_
  show am_S _ _ _ _ _ _ _ (0, [some (.ref 0), some (.int w), none], [], h, 0, 0) _
  refine am_steps ok_Ho_putOnTape 5 (x' := (8, [some (.ref 0), some (.int w), some (.int 24)], [.ref 0], h, 0, 0)) rfl (Nat.le_of_ble_eq_true rfl) (Nat.le_of_ble_eq_true rfl) ?_
  refine ar_get ok_Ho_putOnTape rfl c_0 (v := .int 4) rfl (pc' := 11) rfl (Nat.le_of_ble_eq_true rfl) (Nat.le_of_ble_eq_true rfl) ?_
  refine am_steps ok_Ho_putOnTape 3 (x' := (18, [some (.ref 0), some (.int w), some (.int 24)], [.ref 0], h, 0, 0)) rfl (Nat.le_of_ble_eq_true rfl) (Nat.le_of_ble_eq_true rfl) ?_
  refine ar_get ok_Ho_putOnTape rfl c_0 (v := .ref 1) rfl (pc' := 21) rfl (Nat.le_of_ble_eq_true rfl) (Nat.le_of_ble_eq_true rfl) ?_
  refine am_steps ok_Ho_putOnTape 1 (x' := (22, [some (.ref 0), some (.int w), some (.int 24)], [.ref 0, .ref 1], h, 0, 0)) rfl (Nat.le_of_ble_eq_true rfl) (Nat.le_of_ble_eq_true rfl) ?_
  refine ar_get ok_Ho_putOnTape rfl c_0 (v := .int 4) rfl (pc' := 25) rfl (Nat.le_of_ble_eq_true rfl) (Nat.le_of_ble_eq_true rfl) ?_
  refine am_steps ok_Ho_putOnTape 4 (x' := (29, [some (.ref 0), some (.int w), some (.int 24)], [.int (((w >>> (24 &&& 31))).toInt8.toInt32), .int 4, .ref 1], h, 0, 0)) rfl (Nat.le_of_ble_eq_true rfl) (Nat.le_of_ble_eq_true rfl) ?_
  refine ar_bast ok_Ho_putOnTape rfl c_1 (Or.inl rfl) (jx := 4) rfl (pc' := 30) rfl (Nat.le_of_ble_eq_true rfl) (Nat.le_of_ble_eq_true rfl) (fun h1 e2 e3 e4 => ?_)
  have c5 := (e3 0 (by decide)).trans c_0
  have fr6 : ∀ q, q ∉ ([1] : List Nat) → h1[q]? = h[q]? := fun q hq => e3 q (fun z => hq (by rw [z]; decide))
  have ln7 : h1.length = h.length := e4
  refine am_steps ok_Ho_putOnTape 2 (x' := (32, [some (.ref 0), some (.int w), some (.int 24)], [.ref 0, .ref 0], h1, 0, 0)) rfl (Nat.le_of_ble_eq_true rfl) (Nat.le_of_ble_eq_true rfl) ?_
  refine ar_get ok_Ho_putOnTape rfl c5 (v := .int 4) rfl (pc' := 35) rfl (Nat.le_of_ble_eq_true rfl) (Nat.le_of_ble_eq_true rfl) ?_
  refine am_steps ok_Ho_putOnTape 2 (x' := (37, [some (.ref 0), some (.int w), some (.int 24)], [.int 5, .ref 0], h1, 0, 0)) rfl (Nat.le_of_ble_eq_true rfl) (Nat.le_of_ble_eq_true rfl) ?_
  refine ar_put ok_Ho_putOnTape rfl c5 (Nat.le_of_ble_eq_true rfl) rfl (fs' := [.ref 1, .int 5, .ref 2, .ref 7, .ref 9, .ref 10, .ref 16, .ref 20]) rfl (pc' := 40) rfl (Nat.le_of_ble_eq_true rfl) (Nat.le_of_ble_eq_true rfl) (fun h8 e9 e10 e11 => ?_)
  have c12 := (e10 1 (by decide)).trans e2
  have fr13 : ∀ q, q ∉ ([1, 0] : List Nat) → h8[q]? = h[q]? := fun q hq => (e10 q (fun z => hq (by rw [z]; decide))).trans (fr6 q (am_sub (by decide) hq))
  have ln14 : h8.length = h.length := e11.trans ln7
  refine am_steps ok_Ho_putOnTape 5 (x' := (8, [some (.ref 0), some (.int w), some (.int 16)], [.ref 0], h8, 0, 0)) rfl (Nat.le_of_ble_eq_true rfl) (Nat.le_of_ble_eq_true rfl) ?_
  refine ar_get ok_Ho_putOnTape rfl e9 (v := .int 5) rfl (pc' := 11) rfl (Nat.le_of_ble_eq_true rfl) (Nat.le_of_ble_eq_true rfl) ?_
  refine am_steps ok_Ho_putOnTape 3 (x' := (18, [some (.ref 0), some (.int w), some (.int 16)], [.ref 0], h8, 0, 0)) rfl (Nat.le_of_ble_eq_true rfl) (Nat.le_of_ble_eq_true rfl) ?_
  refine ar_get ok_Ho_putOnTape rfl e9 (v := .ref 1) rfl (pc' := 21) rfl (Nat.le_of_ble_eq_true rfl) (Nat.le_of_ble_eq_true rfl) ?_
  refine am_steps ok_Ho_putOnTape 1 (x' := (22, [some (.ref 0), some (.int w), some (.int 16)], [.ref 0, .ref 1], h8, 0, 0)) rfl (Nat.le_of_ble_eq_true rfl) (Nat.le_of_ble_eq_true rfl) ?_
  refine ar_get ok_Ho_putOnTape rfl e9 (v := .int 5) rfl (pc' := 25) rfl (Nat.le_of_ble_eq_true rfl) (Nat.le_of_ble_eq_true rfl) ?_
  refine am_steps ok_Ho_putOnTape 4 (x' := (29, [some (.ref 0), some (.int w), some (.int 16)], [.int (((w >>> (16 &&& 31))).toInt8.toInt32), .int 5, .ref 1], h8, 0, 0)) rfl (Nat.le_of_ble_eq_true rfl) (Nat.le_of_ble_eq_true rfl) ?_
  refine ar_bast ok_Ho_putOnTape rfl c12 (Or.inl rfl) (jx := 5) rfl (pc' := 30) rfl (Nat.le_of_ble_eq_true rfl) (Nat.le_of_ble_eq_true rfl) (fun h15 e16 e17 e18 => ?_)
  have c19 := (e17 0 (by decide)).trans e9
  have fr20 : ∀ q, q ∉ ([1, 0] : List Nat) → h15[q]? = h[q]? := fun q hq => (e17 q (fun z => hq (by rw [z]; decide))).trans (fr13 q (am_sub (by decide) hq))
  have ln21 : h15.length = h.length := e18.trans ln14
  refine am_steps ok_Ho_putOnTape 2 (x' := (32, [some (.ref 0), some (.int w), some (.int 16)], [.ref 0, .ref 0], h15, 0, 0)) rfl (Nat.le_of_ble_eq_true rfl) (Nat.le_of_ble_eq_true rfl) ?_
  refine ar_get ok_Ho_putOnTape rfl c19 (v := .int 5) rfl (pc' := 35) rfl (Nat.le_of_ble_eq_true rfl) (Nat.le_of_ble_eq_true rfl) ?_
  refine am_steps ok_Ho_putOnTape 2 (x' := (37, [some (.ref 0), some (.int w), some (.int 16)], [.int 6, .ref 0], h15, 0, 0)) rfl (Nat.le_of_ble_eq_true rfl) (Nat.le_of_ble_eq_true rfl) ?_
  refine ar_put ok_Ho_putOnTape rfl c19 (Nat.le_of_ble_eq_true rfl) rfl (fs' := [.ref 1, .int 6, .ref 2, .ref 7, .ref 9, .ref 10, .ref 16, .ref 20]) rfl (pc' := 40) rfl (Nat.le_of_ble_eq_true rfl) (Nat.le_of_ble_eq_true rfl) (fun h22 e23 e24 e25 => ?_)
  have c26 := (e24 1 (by decide)).trans e16
  have fr27 : ∀ q, q ∉ ([1, 0] : List Nat) → h22[q]? = h[q]? := fun q hq => (e24 q (fun z => hq (by rw [z]; decide))).trans (fr20 q (am_sub (by decide) hq))
  have ln28 : h22.length = h.length := e25.trans ln21
  refine am_steps ok_Ho_putOnTape 5 (x' := (8, [some (.ref 0), some (.int w), some (.int 8)], [.ref 0], h22, 0, 0)) rfl (Nat.le_of_ble_eq_true rfl) (Nat.le_of_ble_eq_true rfl) ?_
  refine ar_get ok_Ho_putOnTape rfl e23 (v := .int 6) rfl (pc' := 11) rfl (Nat.le_of_ble_eq_true rfl) (Nat.le_of_ble_eq_true rfl) ?_
  refine am_steps ok_Ho_putOnTape 3 (x' := (18, [some (.ref 0), some (.int w), some (.int 8)], [.ref 0], h22, 0, 0)) rfl (Nat.le_of_ble_eq_true rfl) (Nat.le_of_ble_eq_true rfl) ?_
  refine ar_get ok_Ho_putOnTape rfl e23 (v := .ref 1) rfl (pc' := 21) rfl (Nat.le_of_ble_eq_true rfl) (Nat.le_of_ble_eq_true rfl) ?_
  refine am_steps ok_Ho_putOnTape 1 (x' := (22, [some (.ref 0), some (.int w), some (.int 8)], [.ref 0, .ref 1], h22, 0, 0)) rfl (Nat.le_of_ble_eq_true rfl) (Nat.le_of_ble_eq_true rfl) ?_
  refine ar_get ok_Ho_putOnTape rfl e23 (v := .int 6) rfl (pc' := 25) rfl (Nat.le_of_ble_eq_true rfl) (Nat.le_of_ble_eq_true rfl) ?_
  refine am_steps ok_Ho_putOnTape 4 (x' := (29, [some (.ref 0), some (.int w), some (.int 8)], [.int (((w >>> (8 &&& 31))).toInt8.toInt32), .int 6, .ref 1], h22, 0, 0)) rfl (Nat.le_of_ble_eq_true rfl) (Nat.le_of_ble_eq_true rfl) ?_
  refine ar_bast ok_Ho_putOnTape rfl c26 (Or.inl rfl) (jx := 6) rfl (pc' := 30) rfl (Nat.le_of_ble_eq_true rfl) (Nat.le_of_ble_eq_true rfl) (fun h29 e30 e31 e32 => ?_)
  have c33 := (e31 0 (by decide)).trans e23
  have fr34 : ∀ q, q ∉ ([1, 0] : List Nat) → h29[q]? = h[q]? := fun q hq => (e31 q (fun z => hq (by rw [z]; decide))).trans (fr27 q (am_sub (by decide) hq))
  have ln35 : h29.length = h.length := e32.trans ln28
  refine am_steps ok_Ho_putOnTape 2 (x' := (32, [some (.ref 0), some (.int w), some (.int 8)], [.ref 0, .ref 0], h29, 0, 0)) rfl (Nat.le_of_ble_eq_true rfl) (Nat.le_of_ble_eq_true rfl) ?_
  refine ar_get ok_Ho_putOnTape rfl c33 (v := .int 6) rfl (pc' := 35) rfl (Nat.le_of_ble_eq_true rfl) (Nat.le_of_ble_eq_true rfl) ?_
  refine am_steps ok_Ho_putOnTape 2 (x' := (37, [some (.ref 0), some (.int w), some (.int 8)], [.int 7, .ref 0], h29, 0, 0)) rfl (Nat.le_of_ble_eq_true rfl) (Nat.le_of_ble_eq_true rfl) ?_
  refine ar_put ok_Ho_putOnTape rfl c33 (Nat.le_of_ble_eq_true rfl) rfl (fs' := [.ref 1, .int 7, .ref 2, .ref 7, .ref 9, .ref 10, .ref 16, .ref 20]) rfl (pc' := 40) rfl (Nat.le_of_ble_eq_true rfl) (Nat.le_of_ble_eq_true rfl) (fun h36 e37 e38 e39 => ?_)
  have c40 := (e38 1 (by decide)).trans e30
  have fr41 : ∀ q, q ∉ ([1, 0] : List Nat) → h36[q]? = h[q]? := fun q hq => (e38 q (fun z => hq (by rw [z]; decide))).trans (fr34 q (am_sub (by decide) hq))
  have ln42 : h36.length = h.length := e39.trans ln35
  refine am_steps ok_Ho_putOnTape 5 (x' := (8, [some (.ref 0), some (.int w), some (.int 0)], [.ref 0], h36, 0, 0)) rfl (Nat.le_of_ble_eq_true rfl) (Nat.le_of_ble_eq_true rfl) ?_
  refine ar_get ok_Ho_putOnTape rfl e37 (v := .int 7) rfl (pc' := 11) rfl (Nat.le_of_ble_eq_true rfl) (Nat.le_of_ble_eq_true rfl) ?_
  refine am_steps ok_Ho_putOnTape 3 (x' := (18, [some (.ref 0), some (.int w), some (.int 0)], [.ref 0], h36, 0, 0)) rfl (Nat.le_of_ble_eq_true rfl) (Nat.le_of_ble_eq_true rfl) ?_
  refine ar_get ok_Ho_putOnTape rfl e37 (v := .ref 1) rfl (pc' := 21) rfl (Nat.le_of_ble_eq_true rfl) (Nat.le_of_ble_eq_true rfl) ?_
  refine am_steps ok_Ho_putOnTape 1 (x' := (22, [some (.ref 0), some (.int w), some (.int 0)], [.ref 0, .ref 1], h36, 0, 0)) rfl (Nat.le_of_ble_eq_true rfl) (Nat.le_of_ble_eq_true rfl) ?_
  refine ar_get ok_Ho_putOnTape rfl e37 (v := .int 7) rfl (pc' := 25) rfl (Nat.le_of_ble_eq_true rfl) (Nat.le_of_ble_eq_true rfl) ?_
  refine am_steps ok_Ho_putOnTape 4 (x' := (29, [some (.ref 0), some (.int w), some (.int 0)], [.int (((w >>> (0 &&& 31))).toInt8.toInt32), .int 7, .ref 1], h36, 0, 0)) rfl (Nat.le_of_ble_eq_true rfl) (Nat.le_of_ble_eq_true rfl) ?_
  refine ar_bast ok_Ho_putOnTape rfl c40 (Or.inl rfl) (jx := 7) rfl (pc' := 30) rfl (Nat.le_of_ble_eq_true rfl) (Nat.le_of_ble_eq_true rfl) (fun h43 e44 e45 e46 => ?_)
  have c47 := (e45 0 (by decide)).trans e37
  have fr48 : ∀ q, q ∉ ([1, 0] : List Nat) → h43[q]? = h[q]? := fun q hq => (e45 q (fun z => hq (by rw [z]; decide))).trans (fr41 q (am_sub (by decide) hq))
  have ln49 : h43.length = h.length := e46.trans ln42
  refine am_steps ok_Ho_putOnTape 2 (x' := (32, [some (.ref 0), some (.int w), some (.int 0)], [.ref 0, .ref 0], h43, 0, 0)) rfl (Nat.le_of_ble_eq_true rfl) (Nat.le_of_ble_eq_true rfl) ?_
  refine ar_get ok_Ho_putOnTape rfl c47 (v := .int 7) rfl (pc' := 35) rfl (Nat.le_of_ble_eq_true rfl) (Nat.le_of_ble_eq_true rfl) ?_
  refine am_steps ok_Ho_putOnTape 2 (x' := (37, [some (.ref 0), some (.int w), some (.int 0)], [.int 8, .ref 0], h43, 0, 0)) rfl (Nat.le_of_ble_eq_true rfl) (Nat.le_of_ble_eq_true rfl) ?_
  refine ar_put ok_Ho_putOnTape rfl c47 (Nat.le_of_ble_eq_true rfl) rfl (fs' := [.ref 1, .int 8, .ref 2, .ref 7, .ref 9, .ref 10, .ref 16, .ref 20]) rfl (pc' := 40) rfl (Nat.le_of_ble_eq_true rfl) (Nat.le_of_ble_eq_true rfl) (fun h50 e51 e52 e53 => ?_)
  have c54 := (e52 1 (by decide)).trans e44
  have fr55 : ∀ q, q ∉ ([1, 0] : List Nat) → h50[q]? = h[q]? := fun q hq => (e52 q (fun z => hq (by rw [z]; decide))).trans (fr48 q (am_sub (by decide) hq))
  have ln56 : h50.length = h.length := e53.trans ln49
  refine am_steps ok_Ho_putOnTape 4 (x' := (46, [some (.ref 0), some (.int w), some (.int (-8))], [], h50, 0, 0)) rfl (Nat.le_of_ble_eq_true rfl) (Nat.le_of_ble_eq_true rfl) ?_
  exact am_ret ok_Ho_putOnTape rfl (Nat.le_of_ble_eq_true rfl) (Nat.le_of_ble_eq_true rfl) ⟨rfl, e51, c54, fun q hq => fr55 q (am_sub (by decide) hq), ln56⟩
set_option maxHeartbeats 4000000 in
set_option maxRecDepth 100000 in
theorem c_put_8 (w : Int32) (f : Nat → Int32) (h : am_H) (c_0 : h[0]? = some (.inr (0, [.ref 1, .int 8, .ref 2, .ref 7, .ref 9, .ref 10, .ref 16, .ref 20]))) (c_1 : h[1]? = some (.inl (2, 400, .inl f)))  : am_Me am_Pr none 0 0 0 0 11 [.ref 0, .int w] h (fun r h' => r = none ∧ h'[0]? = some (.inr (0, [.ref 1, .int 12, .ref 2, .ref 7, .ref 9, .ref 10, .ref 16, .ref 20])) ∧ h'[1]? = some (.inl (2, 400, .inl (upd (upd (upd (upd f 8 (am_bn 2 ((((w >>> (24 &&& 31))).toInt8.toInt32)))) 9 (am_bn 2 ((((w >>> (16 &&& 31))).toInt8.toInt32)))) 10 (am_bn 2 ((((w >>> (8 &&& 31))).toInt8.toInt32)))) 11 (am_bn 2 ((((w >>> (0 &&& 31))).toInt8.toInt32)))))) ∧ (∀ q, q ∉ ([0, 1] : List Nat) → h'[q]? = h[q]?) ∧ h'.length = h.length) := by
  refine am_enter (d := hd_Ho_putOnTape) rfl (by decide +kernel) (Nat.le_of_ble_eq_true rfl) ?_
  show am_S _ _ _ _ _ _ _ (0, [some (.ref 0), some (.int w), none], [], h, 0, 0) _
  refine am_steps ok_Ho_putOnTape 5 (x' := (8, [some (.ref 0), some (.int w), some (.int 24)], [.ref 0], h, 0, 0)) rfl (Nat.le_of_ble_eq_true rfl) (Nat.le_of_ble_eq_true rfl) ?_
  refine ar_get ok_Ho_putOnTape rfl c_0 (v := .int 8) rfl (pc' := 11) rfl (Nat.le_of_ble_eq_true rfl) (Nat.le_of_ble_eq_true rfl) ?_
  refine am_steps ok_Ho_putOnTape 3 (x' := (18, [some (.ref 0), some (.int w), some (.int 24)], [.ref 0], h, 0, 0)) rfl (Nat.le_of_ble_eq_true rfl) (Nat.le_of_ble_eq_true rfl) ?_
  refine ar_get ok_Ho_putOnTape rfl c_0 (v := .ref 1) rfl (pc' := 21) rfl (Nat.le_of_ble_eq_true rfl) (Nat.le_of_ble_eq_true rfl) ?_
  refine am_steps ok_Ho_putOnTape 1 (x' := (22, [some (.ref 0), some (.int w), some (.int 24)], [.ref 0, .ref 1], h, 0, 0)) rfl (Nat.le_of_ble_eq_true rfl) (Nat.le_of_ble_eq_true rfl) ?_
  refine ar_get ok_Ho_putOnTape rfl c_0 (v := .int 8) rfl (pc' := 25) rfl (Nat.le_of_ble_eq_true rfl) (Nat.le_of_ble_eq_true rfl) ?_
  refine am_steps ok_Ho_putOnTape 4 (x' := (29, [some (.ref 0), some (.int w), some (.int 24)], [.int (((w >>> (24 &&& 31))).toInt8.toInt32), .int 8, .ref 1], h, 0, 0)) rfl (Nat.le_of_ble_eq_true rfl) (Nat.le_of_ble_eq_true rfl) ?_
  refine ar_bast ok_Ho_putOnTape rfl c_1 (Or.inl rfl) (jx := 8) rfl (pc' := 30) rfl (Nat.le_of_ble_eq_true rfl) (Nat.le_of_ble_eq_true rfl) (fun h1 e2 e3 e4 => ?_)
  have c5 := (e3 0 (by decide)).trans c_0
  have fr6 : ∀ q, q ∉ ([1] : List Nat) → h1[q]? = h[q]? := fun q hq => e3 q (fun z => hq (by rw [z]; decide))
  have ln7 : h1.length = h.length := e4
  refine am_steps ok_Ho_putOnTape 2 (x' := (32, [some (.ref 0), some (.int w), some (.int 24)], [.ref 0, .ref 0], h1, 0, 0)) rfl (Nat.le_of_ble_eq_true rfl) (Nat.le_of_ble_eq_true rfl) ?_
  refine ar_get ok_Ho_putOnTape rfl c5 (v := .int 8) rfl (pc' := 35) rfl (Nat.le_of_ble_eq_true rfl) (Nat.le_of_ble_eq_true rfl) ?_
  refine am_steps ok_Ho_putOnTape 2 (x' := (37, [some (.ref 0), some (.int w), some (.int 24)], [.int 9, .ref 0], h1, 0, 0)) rfl (Nat.le_of_ble_eq_true rfl) (Nat.le_of_ble_eq_true rfl) ?_
  refine ar_put ok_Ho_putOnTape rfl c5 (Nat.le_of_ble_eq_true rfl) rfl (fs' := [.ref 1, .int 9, .ref 2, .ref 7, .ref 9, .ref 10, .ref 16, .ref 20]) rfl (pc' := 40) rfl (Nat.le_of_ble_eq_true rfl) (Nat.le_of_ble_eq_true rfl) (fun h8 e9 e10 e11 => ?_)
  have c12 := (e10 1 (by decide)).trans e2
  have fr13 : ∀ q, q ∉ ([1, 0] : List Nat) → h8[q]? = h[q]? := fun q hq => (e10 q (fun z => hq (by rw [z]; decide))).trans (fr6 q (am_sub (by decide) hq))
  have ln14 : h8.length = h.length := e11.trans ln7
  refine am_steps ok_Ho_putOnTape 5 (x' := (8, [some (.ref 0), some (.int w), some (.int 16)], [.ref 0], h8, 0, 0)) rfl (Nat.le_of_ble_eq_true rfl) (Nat.le_of_ble_eq_true rfl) ?_
  refine ar_get ok_Ho_putOnTape rfl e9 (v := .int 9) rfl (pc' := 11) rfl (Nat.le_of_ble_eq_true rfl) (Nat.le_of_ble_eq_true rfl) ?_
  refine am_steps ok_Ho_putOnTape 3 (x' := (18, [some (.ref 0), some (.int w), some (.int 16)], [.ref 0], h8, 0, 0)) rfl (Nat.le_of_ble_eq_true rfl) (Nat.le_of_ble_eq_true rfl) ?_
  refine ar_get ok_Ho_putOnTape rfl e9 (v := .ref 1) rfl (pc' := 21) rfl (Nat.le_of_ble_eq_true rfl) (Nat.le_of_ble_eq_true rfl) ?_
  refine am_steps ok_Ho_putOnTape 1 (x' := (22, [some (.ref 0), some (.int w), some (.int 16)], [.ref 0, .ref 1], h8, 0, 0)) rfl (Nat.le_of_ble_eq_true rfl) (Nat.le_of_ble_eq_true rfl) ?_
  refine ar_get ok_Ho_putOnTape rfl e9 (v := .int 9) rfl (pc' := 25) rfl (Nat.le_of_ble_eq_true rfl) (Nat.le_of_ble_eq_true rfl) ?_
  refine am_steps ok_Ho_putOnTape 4 (x' := (29, [some (.ref 0), some (.int w), some (.int 16)], [.int (((w >>> (16 &&& 31))).toInt8.toInt32), .int 9, .ref 1], h8, 0, 0)) rfl (Nat.le_of_ble_eq_true rfl) (Nat.le_of_ble_eq_true rfl) ?_
  refine ar_bast ok_Ho_putOnTape rfl c12 (Or.inl rfl) (jx := 9) rfl (pc' := 30) rfl (Nat.le_of_ble_eq_true rfl) (Nat.le_of_ble_eq_true rfl) (fun h15 e16 e17 e18 => ?_)
  have c19 := (e17 0 (by decide)).trans e9
  have fr20 : ∀ q, q ∉ ([1, 0] : List Nat) → h15[q]? = h[q]? := fun q hq => (e17 q (fun z => hq (by rw [z]; decide))).trans (fr13 q (am_sub (by decide) hq))
  have ln21 : h15.length = h.length := e18.trans ln14
  refine am_steps ok_Ho_putOnTape 2 (x' := (32, [some (.ref 0), some (.int w), some (.int 16)], [.ref 0, .ref 0], h15, 0, 0)) rfl (Nat.le_of_ble_eq_true rfl) (Nat.le_of_ble_eq_true rfl) ?_
  refine ar_get ok_Ho_putOnTape rfl c19 (v := .int 9) rfl (pc' := 35) rfl (Nat.le_of_ble_eq_true rfl) (Nat.le_of_ble_eq_true rfl) ?_
  refine am_steps ok_Ho_putOnTape 2 (x' := (37, [some (.ref 0), some (.int w), some (.int 16)], [.int 10, .ref 0], h15, 0, 0)) rfl (Nat.le_of_ble_eq_true rfl) (Nat.le_of_ble_eq_true rfl) ?_
  refine ar_put ok_Ho_putOnTape rfl c19 (Nat.le_of_ble_eq_true rfl) rfl (fs' := [.ref 1, .int 10, .ref 2, .ref 7, .ref 9, .ref 10, .ref 16, .ref 20]) rfl (pc' := 40) rfl (Nat.le_of_ble_eq_true rfl) (Nat.le_of_ble_eq_true rfl) (fun h22 e23 e24 e25 => ?_)
  have c26 := (e24 1 (by decide)).trans e16
  have fr27 : ∀ q, q ∉ ([1, 0] : List Nat) → h22[q]? = h[q]? := fun q hq => (e24 q (fun z => hq (by rw [z]; decide))).trans (fr20 q (am_sub (by decide) hq))
  have ln28 : h22.length = h.length := e25.trans ln21
  refine am_steps ok_Ho_putOnTape 5 (x' := (8, [some (.ref 0), some (.int w), some (.int 8)], [.ref 0], h22, 0, 0)) rfl (Nat.le_of_ble_eq_true rfl) (Nat.le_of_ble_eq_true rfl) ?_
  refine ar_get ok_Ho_putOnTape rfl e23 (v := .int 10) rfl (pc' := 11) rfl (Nat.le_of_ble_eq_true rfl) (Nat.le_of_ble_eq_true rfl) ?_
  refine am_steps ok_Ho_putOnTape 3 (x' := (18, [some (.ref 0), some (.int w), some (.int 8)], [.ref 0], h22, 0, 0)) rfl (Nat.le_of_ble_eq_true rfl) (Nat.le_of_ble_eq_true rfl) ?_
  refine ar_get ok_Ho_putOnTape rfl e23 (v := .ref 1) rfl (pc' := 21) rfl (Nat.le_of_ble_eq_true rfl) (Nat.le_of_ble_eq_true rfl) ?_
  refine am_steps ok_Ho_putOnTape 1 (x' := (22, [some (.ref 0), some (.int w), some (.int 8)], [.ref 0, .ref 1], h22, 0, 0)) rfl (Nat.le_of_ble_eq_true rfl) (Nat.le_of_ble_eq_true rfl) ?_
  refine ar_get ok_Ho_putOnTape rfl e23 (v := .int 10) rfl (pc' := 25) rfl (Nat.le_of_ble_eq_true rfl) (Nat.le_of_ble_eq_true rfl) ?_
  refine am_steps ok_Ho_putOnTape 4 (x' := (29, [some (.ref 0), some (.int w), some (.int 8)], [.int (((w >>> (8 &&& 31))).toInt8.toInt32), .int 10, .ref 1], h22, 0, 0)) rfl (Nat.le_of_ble_eq_true rfl) (Nat.le_of_ble_eq_true rfl) ?_
  refine ar_bast ok_Ho_putOnTape rfl c26 (Or.inl rfl) (jx := 10) rfl (pc' := 30) rfl (Nat.le_of_ble_eq_true rfl) (Nat.le_of_ble_eq_true rfl) (fun h29 e30 e31 e32 => ?_)
  have c33 := (e31 0 (by decide)).trans e23
  have fr34 : ∀ q, q ∉ ([1, 0] : List Nat) → h29[q]? = h[q]? := fun q hq => (e31 q (fun z => hq (by rw [z]; decide))).trans (fr27 q (am_sub (by decide) hq))
  have ln35 : h29.length = h.length := e32.trans ln28
  refine am_steps ok_Ho_putOnTape 2 (x' := (32, [some (.ref 0), some (.int w), some (.int 8)], [.ref 0, .ref 0], h29, 0, 0)) rfl (Nat.le_of_ble_eq_true rfl) (Nat.le_of_ble_eq_true rfl) ?_
  refine ar_get ok_Ho_putOnTape rfl c33 (v := .int 10) rfl (pc' := 35) rfl (Nat.le_of_ble_eq_true rfl) (Nat.le_of_ble_eq_true rfl) ?_
  refine am_steps ok_Ho_putOnTape 2 (x' := (37, [some (.ref 0), some (.int w), some (.int 8)], [.int 11, .ref 0], h29, 0, 0)) rfl (Nat.le_of_ble_eq_true rfl) (Nat.le_of_ble_eq_true rfl) ?_
  refine ar_put ok_Ho_putOnTape rfl c33 (Nat.le_of_ble_eq_true rfl) rfl (fs' := [.ref 1, .int 11, .ref 2, .ref 7, .ref 9, .ref 10, .ref 16, .ref 20]) rfl (pc' := 40) rfl (Nat.le_of_ble_eq_true rfl) (Nat.le_of_ble_eq_true rfl) (fun h36 e37 e38 e39 => ?_)
  have c40 := (e38 1 (by decide)).trans e30
  have fr41 : ∀ q, q ∉ ([1, 0] : List Nat) → h36[q]? = h[q]? := fun q hq => (e38 q (fun z => hq (by rw [z]; decide))).trans (fr34 q (am_sub (by decide) hq))
  have ln42 : h36.length = h.length := e39.trans ln35
  refine am_steps ok_Ho_putOnTape 5 (x' := (8, [some (.ref 0), some (.int w), some (.int 0)], [.ref 0], h36, 0, 0)) rfl (Nat.le_of_ble_eq_true rfl) (Nat.le_of_ble_eq_true rfl) ?_
  refine ar_get ok_Ho_putOnTape rfl e37 (v := .int 11) rfl (pc' := 11) rfl (Nat.le_of_ble_eq_true rfl) (Nat.le_of_ble_eq_true rfl) ?_
  refine am_steps ok_Ho_putOnTape 3 (x' := (18, [some (.ref 0), some (.int w), some (.int 0)], [.ref 0], h36, 0, 0)) rfl (Nat.le_of_ble_eq_true rfl) (Nat.le_of_ble_eq_true rfl) ?_
  refine ar_get ok_Ho_putOnTape rfl e37 (v := .ref 1) rfl (pc' := 21) rfl (Nat.le_of_ble_eq_true rfl) (Nat.le_of_ble_eq_true rfl) ?_
  refine am_steps ok_Ho_putOnTape 1 (x' := (22, [some (.ref 0), some (.int w), some (.int 0)], [.ref 0, .ref 1], h36, 0, 0)) rfl (Nat.le_of_ble_eq_true rfl) (Nat.le_of_ble_eq_true rfl) ?_
  refine ar_get ok_Ho_putOnTape rfl e37 (v := .int 11) rfl (pc' := 25) rfl (Nat.le_of_ble_eq_true rfl) (Nat.le_of_ble_eq_true rfl) ?_
  refine am_steps ok_Ho_putOnTape 4 (x' := (29, [some (.ref 0), some (.int w), some (.int 0)], [.int (((w >>> (0 &&& 31))).toInt8.toInt32), .int 11, .ref 1], h36, 0, 0)) rfl (Nat.le_of_ble_eq_true rfl) (Nat.le_of_ble_eq_true rfl) ?_
  refine ar_bast ok_Ho_putOnTape rfl c40 (Or.inl rfl) (jx := 11) rfl (pc' := 30) rfl (Nat.le_of_ble_eq_true rfl) (Nat.le_of_ble_eq_true rfl) (fun h43 e44 e45 e46 => ?_)
  have c47 := (e45 0 (by decide)).trans e37
  have fr48 : ∀ q, q ∉ ([1, 0] : List Nat) → h43[q]? = h[q]? := fun q hq => (e45 q (fun z => hq (by rw [z]; decide))).trans (fr41 q (am_sub (by decide) hq))
  have ln49 : h43.length = h.length := e46.trans ln42
  refine am_steps ok_Ho_putOnTape 2 (x' := (32, [some (.ref 0), some (.int w), some (.int 0)], [.ref 0, .ref 0], h43, 0, 0)) rfl (Nat.le_of_ble_eq_true rfl) (Nat.le_of_ble_eq_true rfl) ?_
  refine ar_get ok_Ho_putOnTape rfl c47 (v := .int 11) rfl (pc' := 35) rfl (Nat.le_of_ble_eq_true rfl) (Nat.le_of_ble_eq_true rfl) ?_
  refine am_steps ok_Ho_putOnTape 2 (x' := (37, [some (.ref 0), some (.int w), some (.int 0)], [.int 12, .ref 0], h43, 0, 0)) rfl (Nat.le_of_ble_eq_true rfl) (Nat.le_of_ble_eq_true rfl) ?_
  refine ar_put ok_Ho_putOnTape rfl c47 (Nat.le_of_ble_eq_true rfl) rfl (fs' := [.ref 1, .int 12, .ref 2, .ref 7, .ref 9, .ref 10, .ref 16, .ref 20]) rfl (pc' := 40) rfl (Nat.le_of_ble_eq_true rfl) (Nat.le_of_ble_eq_true rfl) (fun h50 e51 e52 e53 => ?_)
  have c54 := (e52 1 (by decide)).trans e44
  have fr55 : ∀ q, q ∉ ([1, 0] : List Nat) → h50[q]? = h[q]? := fun q hq => (e52 q (fun z => hq (by rw [z]; decide))).trans (fr48 q (am_sub (by decide) hq))
  have ln56 : h50.length = h.length := e53.trans ln49
  refine am_steps ok_Ho_putOnTape 4 (x' := (46, [some (.ref 0), some (.int w), some (.int (-8))], [], h50, 0, 0)) rfl (Nat.le_of_ble_eq_true rfl) (Nat.le_of_ble_eq_true rfl) ?_
  exact am_ret ok_Ho_putOnTape rfl (Nat.le_of_ble_eq_true rfl) (Nat.le_of_ble_eq_true rfl) ⟨rfl, e51, c54, fun q hq => fr55 q (am_sub (by decide) hq), ln56⟩
set_option maxHeartbeats 4000000 in
set_option maxRecDepth 100000 in
theorem c_put_12 (w : Int32) (f : Nat → Int32) (h : am_H) (c_0 : h[0]? = some (.inr (0, [.ref 1, .int 12, .ref 2, .ref 7, .ref 9, .ref 10, .ref 16, .ref 20]))) (c_1 : h[1]? = some (.inl (2, 400, .inl f)))  : am_Me am_Pr none 0 0 0 0 11 [.ref 0, .int w] h (fun r h' => r = none ∧ h'[0]? = some (.inr (0, [.ref 1, .int 16, .ref 2, .ref 7, .ref 9, .ref 10, .ref 16, .ref 20])) ∧ h'[1]? = some (.inl (2, 400, .inl (upd (upd (upd (upd f 12 (am_bn 2 ((((w >>> (24 &&& 31))).toInt8.toInt32)))) 13 (am_bn 2 ((((w >>> (16 &&& 31))).toInt8.toInt32)))) 14 (am_bn 2 ((((w >>> (8 &&& 31))).toInt8.toInt32)))) 15 (am_bn 2 ((((w >>> (0 &&& 31))).toInt8.toInt32)))))) ∧ (∀ q, q ∉ ([0, 1] : List Nat) → h'[q]? = h[q]?) ∧ h'.length = h.length) := by
  refine am_enter (d := hd_Ho_putOnTape) rfl (by decide +kernel) (Nat.le_of_ble_eq_true rfl) ?_
  show am_S _ _ _ _ _ _ _ (0, [some (.ref 0), some (.int w), none], [], h, 0, 0) _
  refine am_steps ok_Ho_putOnTape 5 (x' := (8, [some (.ref 0), some (.int w), some (.int 24)], [.ref 0], h, 0, 0)) rfl (Nat.le_of_ble_eq_true rfl) (Nat.le_of_ble_eq_true rfl) ?_
  refine ar_get ok_Ho_putOnTape rfl c_0 (v := .int 12) rfl (pc' := 11) rfl (Nat.le_of_ble_eq_true rfl) (Nat.le_of_ble_eq_true rfl) ?_
  refine am_steps ok_Ho_putOnTape 3 (x' := (18, [some (.ref 0), some (.int w), some (.int 24)], [.ref 0], h, 0, 0)) rfl (Nat.le_of_ble_eq_true rfl) (Nat.le_of_ble_eq_true rfl) ?_
  refine ar_get ok_Ho_putOnTape rfl c_0 (v := .ref 1) rfl (pc' := 21) rfl (Nat.le_of_ble_eq_true rfl) (Nat.le_of_ble_eq_true rfl) ?_
  refine am_steps ok_Ho_putOnTape 1 (x' := (22, [some (.ref 0), some (.int w), some (.int 24)], [.ref 0, .ref 1], h, 0, 0)) rfl (Nat.le_of_ble_eq_true rfl) (Nat.le_of_ble_eq_true rfl) ?_
  refine ar_get ok_Ho_putOnTape rfl c_0 (v := .int 12) rfl (pc' := 25) rfl (Nat.le_of_ble_eq_true rfl) (Nat.le_of_ble_eq_true rfl) ?_
  refine am_steps ok_Ho_putOnTape 4 (x' := (29, [some (.ref 0), some (.int w), some (.int 24)], [.int (((w >>> (24 &&& 31))).toInt8.toInt32), .int 12, .ref 1], h, 0, 0)) rfl (Nat.le_of_ble_eq_true rfl) (Nat.le_of_ble_eq_true rfl) ?_
  refine ar_bast ok_Ho_putOnTape rfl c_1 (Or.inl rfl) (jx := 12) rfl (pc' := 30) rfl (Nat.le_of_ble_eq_true rfl) (Nat.le_of_ble_eq_true rfl) (fun h1 e2 e3 e4 => ?_)
  have c5 := (e3 0 (by decide)).trans c_0
  have fr6 : ∀ q, q ∉ ([1] : List Nat) → h1[q]? = h[q]? := fun q hq => e3 q (fun z => hq (by rw [z]; decide))
  have ln7 : h1.length = h.length := e4
  refine am_steps ok_Ho_putOnTape 2 (x' := (32, [some (.ref 0), some (.int w), some (.int 24)], [.ref 0, .ref 0], h1, 0, 0)) rfl (Nat.le_of_ble_eq_true rfl) (Nat.le_of_ble_eq_true rfl) ?_
  refine ar_get ok_Ho_putOnTape rfl c5 (v := .int 12) rfl (pc' := 35) rfl (Nat.le_of_ble_eq_true rfl) (Nat.le_of_ble_eq_true rfl) ?_
  refine am_steps ok_Ho_putOnTape 2 (x' := (37, [some (.ref 0), some (.int w), some (.int 24)], [.int 13, .ref 0], h1, 0, 0)) rfl (Nat.le_of_ble_eq_true rfl) (Nat.le_of_ble_eq_true rfl) ?_
  refine ar_put ok_Ho_putOnTape rfl c5 (Nat.le_of_ble_eq_true rfl) rfl (fs' := [.ref 1, .int 13, .ref 2, .ref 7, .ref 9, .ref 10, .ref 16, .ref 20]) rfl (pc' := 40) rfl (Nat.le_of_ble_eq_true rfl) (Nat.le_of_ble_eq_true rfl) (fun h8 e9 e10 e11 => ?_)
  have c12 := (e10 1 (by decide)).trans e2
  have fr13 : ∀ q, q ∉ ([1, 0] : List Nat) → h8[q]? = h[q]? := fun q hq => (e10 q (fun z => hq (by rw [z]; decide))).trans (fr6 q (am_sub (by decide) hq))
  have ln14 : h8.length = h.length := e11.trans ln7
  refine am_steps ok_Ho_putOnTape 5 (x' := (8, [some (.ref 0), some (.int w), some (.int 16)], [.ref 0], h8, 0, 0)) rfl (Nat.le_of_ble_eq_true rfl) (Nat.le_of_ble_eq_true rfl) ?_
  refine ar_get ok_Ho_putOnTape rfl e9 (v := .int 13) rfl (pc' := 11) rfl (Nat.le_of_ble_eq_true rfl) (Nat.le_of_ble_eq_true rfl) ?_
  refine am_steps ok_Ho_putOnTape 3 (x' := (18, [some (.ref 0), some (.int w), some (.int 16)], [.ref 0], h8, 0, 0)) rfl (Nat.le_of_ble_eq_true rfl) (Nat.le_of_ble_eq_true rfl) ?_
  refine ar_get ok_Ho_putOnTape rfl e9 (v := .ref 1) rfl (pc' := 21) rfl (Nat.le_of_ble_eq_true rfl) (Nat.le_of_ble_eq_true rfl) ?_
  refine am_steps ok_Ho_putOnTape 1 (x' := (22, [some (.ref 0), some (.int w), some (.int 16)], [.ref 0, .ref 1], h8, 0, 0)) rfl (Nat.le_of_ble_eq_true rfl) (Nat.le_of_ble_eq_true rfl) ?_
  refine ar_get ok_Ho_putOnTape rfl e9 (v := .int 13) rfl (pc' := 25) rfl (Nat.le_of_ble_eq_true rfl) (Nat.le_of_ble_eq_true rfl) ?_
  refine am_steps ok_Ho_putOnTape 4 (x' := (29, [some (.ref 0), some (.int w), some (.int 16)], [.int (((w >>> (16 &&& 31))).toInt8.toInt32), .int 13, .ref 1], h8, 0, 0)) rfl (Nat.le_of_ble_eq_true rfl) (Nat.le_of_ble_eq_true rfl) ?_
  refine ar_bast ok_Ho_putOnTape rfl c12 (Or.inl rfl) (jx := 13) rfl (pc' := 30) rfl (Nat.le_of_ble_eq_true rfl) (Nat.le_of_ble_eq_true rfl) (fun h15 e16 e17 e18 => ?_)
  have c19 := (e17 0 (by decide)).trans e9
  have fr20 : ∀ q, q ∉ ([1, 0] : List Nat) → h15[q]? = h[q]? := fun q hq => (e17 q (fun z => hq (by rw [z]; decide))).trans (fr13 q (am_sub (by decide) hq))
  have ln21 : h15.length = h.length := e18.trans ln14
  refine am_steps ok_Ho_putOnTape 2 (x' := (32, [some (.ref 0), some (.int w), some (.int 16)], [.ref 0, .ref 0], h15, 0, 0)) rfl (Nat.le_of_ble_eq_true rfl) (Nat.le_of_ble_eq_true rfl) ?_
  refine ar_get ok_Ho_putOnTape rfl c19 (v := .int 13) rfl (pc' := 35) rfl (Nat.le_of_ble_eq_true rfl) (Nat.le_of_ble_eq_true rfl) ?_
  refine am_steps ok_Ho_putOnTape 2 (x' := (37, [some (.ref 0), some (.int w), some (.int 16)], [.int 14, .ref 0], h15, 0, 0)) rfl (Nat.le_of_ble_eq_true rfl) (Nat.le_of_ble_eq_true rfl) ?_
  refine ar_put ok_Ho_putOnTape rfl c19 (Nat.le_of_ble_eq_true rfl) rfl (fs' := [.ref 1, .int 14, .ref 2, .ref 7, .ref 9, .ref 10, .ref 16, .ref 20]) rfl (pc' := 40) rfl (Nat.le_of_ble_eq_true rfl) (Nat.le_of_ble_eq_true rfl) (fun h22 e23 e24 e25 => ?_)
  have c26 := (e24 1 (by decide)).trans e16
  have fr27 : ∀ q, q ∉ ([1, 0] : List Nat) → h22[q]? = h[q]? := fun q hq => (e24 q (fun z => hq (by rw [z]; decide))).trans (fr20 q (am_sub (by decide) hq))
  have ln28 : h22.length = h.length := e25.trans ln21
  refine am_steps ok_Ho_putOnTape 5 (x' := (8, [some (.ref 0), some (.int w), some (.int 8)], [.ref 0], h22, 0, 0)) rfl (Nat.le_of_ble_eq_true rfl) (Nat.le_of_ble_eq_true rfl) ?_
  refine ar_get ok_Ho_putOnTape rfl e23 (v := .int 14) rfl (pc' := 11) rfl (Nat.le_of_ble_eq_true rfl) (Nat.le_of_ble_eq_true rfl) ?_
  refine am_steps ok_Ho_putOnTape 3 (x' := (18, [some (.ref 0), some (.int w), some (.int 8)], [.ref 0], h22, 0, 0)) rfl (Nat.le_of_ble_eq_true rfl) (Nat.le_of_ble_eq_true rfl) ?_
  refine ar_get ok_Ho_putOnTape rfl e23 (v := .ref 1) rfl (pc' := 21) rfl (Nat.le_of_ble_eq_true rfl) (Nat.le_of_ble_eq_true rfl) ?_
  refine am_steps ok_Ho_putOnTape 1 (x' := (22, [some (.ref 0), some (.int w), some (.int 8)], [.ref 0, .ref 1], h22, 0, 0)) rfl (Nat.le_of_ble_eq_true rfl) (Nat.le_of_ble_eq_true rfl) ?_
  refine ar_get ok_Ho_putOnTape rfl e23 (v := .int 14) rfl (pc' := 25) rfl (Nat.le_of_ble_eq_true rfl) (Nat.le_of_ble_eq_true rfl) ?_
  refine am_steps ok_Ho_putOnTape 4 (x' := (29, [some (.ref 0), some (.int w), some (.int 8)], [.int (((w >>> (8 &&& 31))).toInt8.toInt32), .int 14, .ref 1], h22, 0, 0)) rfl (Nat.le_of_ble_eq_true rfl) (Nat.le_of_ble_eq_true rfl) ?_
  refine ar_bast ok_Ho_putOnTape rfl c26 (Or.inl rfl) (jx := 14) rfl (pc' := 30) rfl (Nat.le_of_ble_eq_true rfl) (Nat.le_of_ble_eq_true rfl) (fun h29 e30 e31 e32 => ?_)
  have c33 := (e31 0 (by decide)).trans e23
  have fr34 : ∀ q, q ∉ ([1, 0] : List Nat) → h29[q]? = h[q]? := fun q hq => (e31 q (fun z => hq (by rw [z]; decide))).trans (fr27 q (am_sub (by decide) hq))
  have ln35 : h29.length = h.length := e32.trans ln28
  refine am_steps ok_Ho_putOnTape 2 (x' := (32, [some (.ref 0), some (.int w), some (.int 8)], [.ref 0, .ref 0], h29, 0, 0)) rfl (Nat.le_of_ble_eq_true rfl) (Nat.le_of_ble_eq_true rfl) ?_
  refine ar_get ok_Ho_putOnTape rfl c33 (v := .int 14) rfl (pc' := 35) rfl (Nat.le_of_ble_eq_true rfl) (Nat.le_of_ble_eq_true rfl) ?_
  refine am_steps ok_Ho_putOnTape 2 (x' := (37, [some (.ref 0), some (.int w), some (.int 8)], [.int 15, .ref 0], h29, 0, 0)) rfl (Nat.le_of_ble_eq_true rfl) (Nat.le_of_ble_eq_true rfl) ?_
  refine ar_put ok_Ho_putOnTape rfl c33 (Nat.le_of_ble_eq_true rfl) rfl (fs' := [.ref 1, .int 15, .ref 2, .ref 7, .ref 9, .ref 10, .ref 16, .ref 20]) rfl (pc' := 40) rfl (Nat.le_of_ble_eq_true rfl) (Nat.le_of_ble_eq_true rfl) (fun h36 e37 e38 e39 => ?_)
  have c40 := (e38 1 (by decide)).trans e30
  have fr41 : ∀ q, q ∉ ([1, 0] : List Nat) → h36[q]? = h[q]? := fun q hq => (e38 q (fun z => hq (by rw [z]; decide))).trans (fr34 q (am_sub (by decide) hq))
  have ln42 : h36.length = h.length := e39.trans ln35
  refine am_steps ok_Ho_putOnTape 5 (x' := (8, [some (.ref 0), some (.int w), some (.int 0)], [.ref 0], h36, 0, 0)) rfl (Nat.le_of_ble_eq_true rfl) (Nat.le_of_ble_eq_true rfl) ?_
  refine ar_get ok_Ho_putOnTape rfl e37 (v := .int 15) rfl (pc' := 11) rfl (Nat.le_of_ble_eq_true rfl) (Nat.le_of_ble_eq_true rfl) ?_
  refine am_steps ok_Ho_putOnTape 3 (x' := (18, [some (.ref 0), some (.int w), some (.int 0)], [.ref 0], h36, 0, 0)) rfl (Nat.le_of_ble_eq_true rfl) (Nat.le_of_ble_eq_true rfl) ?_
  refine ar_get ok_Ho_putOnTape rfl e37 (v := .ref 1) rfl (pc' := 21) rfl (Nat.le_of_ble_eq_true rfl) (Nat.le_of_ble_eq_true rfl) ?_
  refine am_steps ok_Ho_putOnTape 1 (x' := (22, [some (.ref 0), some (.int w), some (.int 0)], [.ref 0, .ref 1], h36, 0, 0)) rfl (Nat.le_of_ble_eq_true rfl) (Nat.le_of_ble_eq_true rfl) ?_
  refine ar_get ok_Ho_putOnTape rfl e37 (v := .int 15) rfl (pc' := 25) rfl (Nat.le_of_ble_eq_true rfl) (Nat.le_of_ble_eq_true rfl) ?_
  refine am_steps ok_Ho_putOnTape 4 (x' := (29, [some (.ref 0), some (.int w), some (.int 0)], [.int (((w >>> (0 &&& 31))).toInt8.toInt32), .int 15, .ref 1], h36, 0, 0)) rfl (Nat.le_of_ble_eq_true rfl) (Nat.le_of_ble_eq_true rfl) ?_
  refine ar_bast ok_Ho_putOnTape rfl c40 (Or.inl rfl) (jx := 15) rfl (pc' := 30) rfl (Nat.le_of_ble_eq_true rfl) (Nat.le_of_ble_eq_true rfl) (fun h43 e44 e45 e46 => ?_)
  have c47 := (e45 0 (by decide)).trans e37
  have fr48 : ∀ q, q ∉ ([1, 0] : List Nat) → h43[q]? = h[q]? := fun q hq => (e45 q (fun z => hq (by rw [z]; decide))).trans (fr41 q (am_sub (by decide) hq))
  have ln49 : h43.length = h.length := e46.trans ln42
  refine am_steps ok_Ho_putOnTape 2 (x' := (32, [some (.ref 0), some (.int w), some (.int 0)], [.ref 0, .ref 0], h43, 0, 0)) rfl (Nat.le_of_ble_eq_true rfl) (Nat.le_of_ble_eq_true rfl) ?_
  refine ar_get ok_Ho_putOnTape rfl c47 (v := .int 15) rfl (pc' := 35) rfl (Nat.le_of_ble_eq_true rfl) (Nat.le_of_ble_eq_true rfl) ?_
  refine am_steps ok_Ho_putOnTape 2 (x' := (37, [some (.ref 0), some (.int w), some (.int 0)], [.int 16, .ref 0], h43, 0, 0)) rfl (Nat.le_of_ble_eq_true rfl) (Nat.le_of_ble_eq_true rfl) ?_
  refine ar_put ok_Ho_putOnTape rfl c47 (Nat.le_of_ble_eq_true rfl) rfl (fs' := [.ref 1, .int 16, .ref 2, .ref 7, .ref 9, .ref 10, .ref 16, .ref 20]) rfl (pc' := 40) rfl (Nat.le_of_ble_eq_true rfl) (Nat.le_of_ble_eq_true rfl) (fun h50 e51 e52 e53 => ?_)
  have c54 := (e52 1 (by decide)).trans e44
  have fr55 : ∀ q, q ∉ ([1, 0] : List Nat) → h50[q]? = h[q]? := fun q hq => (e52 q (fun z => hq (by rw [z]; decide))).trans (fr48 q (am_sub (by decide) hq))
  have ln56 : h50.length = h.length := e53.trans ln49
  refine am_steps ok_Ho_putOnTape 4 (x' := (46, [some (.ref 0), some (.int w), some (.int (-8))], [], h50, 0, 0)) rfl (Nat.le_of_ble_eq_true rfl) (Nat.le_of_ble_eq_true rfl) ?_
  exact am_ret ok_Ho_putOnTape rfl (Nat.le_of_ble_eq_true rfl) (Nat.le_of_ble_eq_true rfl) ⟨rfl, e51, c54, fun q hq => fr55 q (am_sub (by decide) hq), ln56⟩
set_option maxHeartbeats 4000000 in
set_option maxRecDepth 100000 in
theorem c_put_16 (w : Int32) (f : Nat → Int32) (h : am_H) (c_0 : h[0]? = some (.inr (0, [.ref 1, .int 16, .ref 2, .ref 7, .ref 9, .ref 10, .ref 16, .ref 20]))) (c_1 : h[1]? = some (.inl (2, 400, .inl f)))  : am_Me am_Pr none 0 0 0 0 11 [.ref 0, .int w] h (fun r h' => r = none ∧ h'[0]? = some (.inr (0, [.ref 1, .int 20, .ref 2, .ref 7, .ref 9, .ref 10, .ref 16, .ref 20])) ∧ h'[1]? = some (.inl (2, 400, .inl (upd (upd (upd (upd f 16 (am_bn 2 ((((w >>> (24 &&& 31))).toInt8.toInt32)))) 17 (am_bn 2 ((((w >>> (16 &&& 31))).toInt8.toInt32)))) 18 (am_bn 2 ((((w >>> (8 &&& 31))).toInt8.toInt32)))) 19 (am_bn 2 ((((w >>> (0 &&& 31))).toInt8.toInt32)))))) ∧ (∀ q, q ∉ ([0, 1] : List Nat) → h'[q]? = h[q]?) ∧ h'.length = h.length) := by
  refine am_enter (d := hd_Ho_putOnTape) rfl (by decide +kernel) (Nat.le_of_ble_eq_true rfl) ?_
  show am_S _ _ _ _ _ _ _ (0, [some (.ref 0), some (.int w), none], [], h, 0, 0) _
  refine am_steps ok_Ho_putOnTape 5 (x' := (8, [some (.ref 0), some (.int w), some (.int 24)], [.ref 0], h, 0, 0)) rfl (Nat.le_of_ble_eq_true rfl) (Nat.le_of_ble_eq_true rfl) ?_
  refine ar_get ok_Ho_putOnTape rfl c_0 (v := .int 16) rfl (pc' := 11) rfl (Nat.le_of_ble_eq_true rfl) (Nat.le_of_ble_eq_true rfl) ?_
  refine am_steps ok_Ho_putOnTape 3 (x' := (18, [some (.ref 0), some (.int w), some (.int 24)], [.ref 0], h, 0, 0)) rfl (Nat.le_of_ble_eq_true rfl) (Nat.le_of_ble_eq_true rfl) ?_
  refine ar_get ok_Ho_putOnTape rfl c_0 (v := .ref 1) rfl (pc' := 21) rfl (Nat.le_of_ble_eq_true rfl) (Nat.le_of_ble_eq_true rfl) ?_
  refine am_steps ok_Ho_putOnTape 1 (x' := (22, [some (.ref 0), some (.int w), some (.int 24)], [.ref 0, .ref 1], h, 0, 0)) rfl (Nat.le_of_ble_eq_true rfl) (Nat.le_of_ble_eq_true rfl) ?_
  refine ar_get ok_Ho_putOnTape rfl c_0 (v := .int 16) rfl (pc' := 25) rfl (Nat.le_of_ble_eq_true rfl) (Nat.le_of_ble_eq_true rfl) ?_
  refine am_steps ok_Ho_putOnTape 4 (x' := (29, [some (.ref 0), some (.int w), some (.int 24)], [.int (((w >>> (24 &&& 31))).toInt8.toInt32), .int 16, .ref 1], h, 0, 0)) rfl (Nat.le_of_ble_eq_true rfl) (Nat.le_of_ble_eq_true rfl) ?_
  refine ar_bast ok_Ho_putOnTape rfl c_1 (Or.inl rfl) (jx := 16) rfl (pc' := 30) rfl (Nat.le_of_ble_eq_true rfl) (Nat.le_of_ble_eq_true rfl) (fun h1 e2 e3 e4 => ?_)
  have c5 := (e3 0 (by decide)).trans c_0
  have fr6 : ∀ q, q ∉ ([1] : List Nat) → h1[q]? = h[q]? := fun q hq => e3 q (fun z => hq (by rw [z]; decide))
  have ln7 : h1.length = h.length := e4
  refine am_steps ok_Ho_putOnTape 2 (x' := (32, [some (.ref 0), some (.int w), some (.int 24)], [.ref 0, .ref 0], h1, 0, 0)) rfl (Nat.le_of_ble_eq_true rfl) (Nat.le_of_ble_eq_true rfl) ?_
  refine ar_get ok_Ho_putOnTape rfl c5 (v := .int 16) rfl (pc' := 35) rfl (Nat.le_of_ble_eq_true rfl) (Nat.le_of_ble_eq_true rfl) ?_
  refine am_steps ok_Ho_putOnTape 2 (x' := (37, [some (.ref 0), some (.int w), some (.int 24)], [.int 17, .ref 0], h1, 0, 0)) rfl (Nat.le_of_ble_eq_true rfl) (Nat.le_of_ble_eq_true rfl) ?_
  refine ar_put ok_Ho_putOnTape rfl c5 (Nat.le_of_ble_eq_true rfl) rfl (fs' := [.ref 1, .int 17, .ref 2, .ref 7, .ref 9, .ref 10, .ref 16, .ref 20]) rfl (pc' := 40) rfl (Nat.le_of_ble_eq_true rfl) (Nat.le_of_ble_eq_true rfl) (fun h8 e9 e10 e11 => ?_)
  have c12 := (e10 1 (by decide)).trans e2
  have fr13 : ∀ q, q ∉ ([1, 0] : List Nat) → h8[q]? = h[q]? := fun q hq => (e10 q (fun z => hq (by rw [z]; decide))).trans (fr6 q (am_sub (by decide) hq))
  have ln14 : h8.length = h.length := e11.trans ln7
  refine am_steps ok_Ho_putOnTape 5 (x' := (8, [some (.ref 0), some (.int w), some (.int 16)], [.ref 0], h8, 0, 0)) rfl (Nat.le_of_ble_eq_true rfl) (Nat.le_of_ble_eq_true rfl) ?_
  refine ar_get ok_Ho_putOnTape rfl e9 (v := .int 17) rfl (pc' := 11) rfl (Nat.le_of_ble_eq_true rfl) (Nat.le_of_ble_eq_true rfl) ?_
  refine am_steps ok_Ho_putOnTape 3 (x' := (18, [some (.ref 0), some (.int w), some (.int 16)], [.ref 0], h8, 0, 0)) rfl (Nat.le_of_ble_eq_true rfl) (Nat.le_of_ble_eq_true rfl) ?_
  refine ar_get ok_Ho_putOnTape rfl e9 (v := .ref 1) rfl (pc' := 21) rfl (Nat.le_of_ble_eq_true rfl) (Nat.le_of_ble_eq_true rfl) ?_
  refine am_steps ok_Ho_putOnTape 1 (x' := (22, [some (.ref 0), some (.int w), some (.int 16)], [.ref 0, .ref 1], h8, 0, 0)) rfl (Nat.le_of_ble_eq_true rfl) (Nat.le_of_ble_eq_true rfl) ?_
  refine ar_get ok_Ho_putOnTape rfl e9 (v := .int 17) rfl (pc' := 25) rfl (Nat.le_of_ble_eq_true rfl) (Nat.le_of_ble_eq_true rfl) ?_
  refine am_steps ok_Ho_putOnTape 4 (x' := (29, [some (.ref 0), some (.int w), some (.int 16)], [.int (((w >>> (16 &&& 31))).toInt8.toInt32), .int 17, .ref 1], h8, 0, 0)) rfl (Nat.le_of_ble_eq_true rfl) (Nat.le_of_ble_eq_true rfl) ?_
  refine ar_bast ok_Ho_putOnTape rfl c12 (Or.inl rfl) (jx := 17) rfl (pc' := 30) rfl (Nat.le_of_ble_eq_true rfl) (Nat.le_of_ble_eq_true rfl) (fun h15 e16 e17 e18 => ?_)
  have c19 := (e17 0 (by decide)).trans e9
  have fr20 : ∀ q, q ∉ ([1, 0] : List Nat) → h15[q]? = h[q]? := fun q hq => (e17 q (fun z => hq (by rw [z]; decide))).trans (fr13 q (am_sub (by decide) hq))
  have ln21 : h15.length = h.length := e18.trans ln14
  refine am_steps ok_Ho_putOnTape 2 (x' := (32, [some (.ref 0), some (.int w), some (.int 16)], [.ref 0, .ref 0], h15, 0, 0)) rfl (Nat.le_of_ble_eq_true rfl) (Nat.le_of_ble_eq_true rfl) ?_
  refine ar_get ok_Ho_putOnTape rfl c19 (v := .int 17) rfl (pc' := 35) rfl (Nat.le_of_ble_eq_true rfl) (Nat.le_of_ble_eq_true rfl) ?_
  refine am_steps ok_Ho_putOnTape 2 (x' := (37, [some (.ref 0), some (.int w), some (.int 16)], [.int 18, .ref 0], h15, 0, 0)) rfl (Nat.le_of_ble_eq_true rfl) (Nat.le_of_ble_eq_true rfl) ?_
  refine ar_put ok_Ho_putOnTape rfl c19 (Nat.le_of_ble_eq_true rfl) rfl (fs' := [.ref 1, .int 18, .ref 2, .ref 7, .ref 9, .ref 10, .ref 16, .ref 20]) rfl (pc' := 40) rfl (Nat.le_of_ble_eq_true rfl) (Nat.le_of_ble_eq_true rfl) (fun h22 e23 e24 e25 => ?_)
  have c26 := (e24 1 (by decide)).trans e16
  have fr27 : ∀ q, q ∉ ([1, 0] : List Nat) → h22[q]? = h[q]? := fun q hq => (e24 q (fun z => hq (by rw [z]; decide))).trans (fr20 q (am_sub (by decide) hq))
  have ln28 : h22.length = h.length := e25.trans ln21
  refine am_steps ok_Ho_putOnTape 5 (x' := (8, [some (.ref 0), some (.int w), some (.int 8)], [.ref 0], h22, 0, 0)) rfl (Nat.le_of_ble_eq_true rfl) (Nat.le_of_ble_eq_true rfl) ?_
  refine ar_get ok_Ho_putOnTape rfl e23 (v := .int 18) rfl (pc' := 11) rfl (Nat.le_of_ble_eq_true rfl) (Nat.le_of_ble_eq_true rfl) ?_
  refine am_steps ok_Ho_putOnTape 3 (x' := (18, [some (.ref 0), some (.int w), some (.int 8)], [.ref 0], h22, 0, 0)) rfl (Nat.le_of_ble_eq_true rfl) (Nat.le_of_ble_eq_true rfl) ?_
  refine ar_get ok_Ho_putOnTape rfl e23 (v := .ref 1) rfl (pc' := 21) rfl (Nat.le_of_ble_eq_true rfl) (Nat.le_of_ble_eq_true rfl) ?_
  refine am_steps ok_Ho_putOnTape 1 (x' := (22, [some (.ref 0), some (.int w), some (.int 8)], [.ref 0, .ref 1], h22, 0, 0)) rfl (Nat.le_of_ble_eq_true rfl) (Nat.le_of_ble_eq_true rfl) ?_
  refine ar_get ok_Ho_putOnTape rfl e23 (v := .int 18) rfl (pc' := 25) rfl (Nat.le_of_ble_eq_true rfl) (Nat.le_of_ble_eq_true rfl) ?_
  refine am_steps ok_Ho_putOnTape 4 (x' := (29, [some (.ref 0), some (.int w), some (.int 8)], [.int (((w >>> (8 &&& 31))).toInt8.toInt32), .int 18, .ref 1], h22, 0, 0)) rfl (Nat.le_of_ble_eq_true rfl) (Nat.le_of_ble_eq_true rfl) ?_
  refine ar_bast ok_Ho_putOnTape rfl c26 (Or.inl rfl) (jx := 18) rfl (pc' := 30) rfl (Nat.le_of_ble_eq_true rfl) (Nat.le_of_ble_eq_true rfl) (fun h29 e30 e31 e32 => ?_)
  have c33 := (e31 0 (by decide)).trans e23
  have fr34 : ∀ q, q ∉ ([1, 0] : List Nat) → h29[q]? = h[q]? := fun q hq => (e31 q (fun z => hq (by rw [z]; decide))).trans (fr27 q (am_sub (by decide) hq))
  have ln35 : h29.length = h.length := e32.trans ln28
  refine am_steps ok_Ho_putOnTape 2 (x' := (32, [some (.ref 0), some (.int w), some (.int 8)], [.ref 0, .ref 0], h29, 0, 0)) rfl (Nat.le_of_ble_eq_true rfl) (Nat.le_of_ble_eq_true rfl) ?_
  refine ar_get ok_Ho_putOnTape rfl c33 (v := .int 18) rfl (pc' := 35) rfl (Nat.le_of_ble_eq_true rfl) (Nat.le_of_ble_eq_true rfl) ?_
  refine am_steps ok_Ho_putOnTape 2 (x' := (37, [some (.ref 0), some (.int w), some (.int 8)], [.int 19, .ref 0], h29, 0, 0)) rfl (Nat.le_of_ble_eq_true rfl) (Nat.le_of_ble_eq_true rfl) ?_
  refine ar_put ok_Ho_putOnTape rfl c33 (Nat.le_of_ble_eq_true rfl) rfl (fs' := [.ref 1, .int 19, .ref 2, .ref 7, .ref 9, .ref 10, .ref 16, .ref 20]) rfl (pc' := 40) rfl (Nat.le_of_ble_eq_true rfl) (Nat.le_of_ble_eq_true rfl) (fun h36 e37 e38 e39 => ?_)
  have c40 := (e38 1 (by decide)).trans e30
  have fr41 : ∀ q, q ∉ ([1, 0] : List Nat) → h36[q]? = h[q]? := fun q hq => (e38 q (fun z => hq (by rw [z]; decide))).trans (fr34 q (am_sub (by decide) hq))
  have ln42 : h36.length = h.length := e39.trans ln35
  refine am_steps ok_Ho_putOnTape 5 (x' := (8, [some (.ref 0), some (.int w), some (.int 0)], [.ref 0], h36, 0, 0)) rfl (Nat.le_of_ble_eq_true rfl) (Nat.le_of_ble_eq_true rfl) ?_
  refine ar_get ok_Ho_putOnTape rfl e37 (v := .int 19) rfl (pc' := 11) rfl (Nat.le_of_ble_eq_true rfl) (Nat.le_of_ble_eq_true rfl) ?_
  refine am_steps ok_Ho_putOnTape 3 (x' := (18, [some (.ref 0), some (.int w), some (.int 0)], [.ref 0], h36, 0, 0)) rfl (Nat.le_of_ble_eq_true rfl) (Nat.le_of_ble_eq_true rfl) ?_
  refine ar_get ok_Ho_putOnTape rfl e37 (v := .ref 1) rfl (pc' := 21) rfl (Nat.le_of_ble_eq_true rfl) (Nat.le_of_ble_eq_true rfl) ?_
  refine am_steps ok_Ho_putOnTape 1 (x' := (22, [some (.ref 0), some (.int w), some (.int 0)], [.ref 0, .ref 1], h36, 0, 0)) rfl (Nat.le_of_ble_eq_true rfl) (Nat.le_of_ble_eq_true rfl) ?_
  refine ar_get ok_Ho_putOnTape rfl e37 (v := .int 19) rfl (pc' := 25) rfl (Nat.le_of_ble_eq_true rfl) (Nat.le_of_ble_eq_true rfl) ?_
  refine am_steps ok_Ho_putOnTape 4 (x' := (29, [some (.ref 0), some (.int w), some (.int 0)], [.int (((w >>> (0 &&& 31))).toInt8.toInt32), .int 19, .ref 1], h36, 0, 0)) rfl (Nat.le_of_ble_eq_true rfl) (Nat.le_of_ble_eq_true rfl) ?_
  refine ar_bast ok_Ho_putOnTape rfl c40 (Or.inl rfl) (jx := 19) rfl (pc' := 30) rfl (Nat.le_of_ble_eq_true rfl) (Nat.le_of_ble_eq_true rfl) (fun h43 e44 e45 e46 => ?_)
  have c47 := (e45 0 (by decide)).trans e37
  have fr48 : ∀ q, q ∉ ([1, 0] : List Nat) → h43[q]? = h[q]? := fun q hq => (e45 q (fun z => hq (by rw [z]; decide))).trans (fr41 q (am_sub (by decide) hq))
  have ln49 : h43.length = h.length := e46.trans ln42
  refine am_steps ok_Ho_putOnTape 2 (x' := (32, [some (.ref 0), some (.int w), some (.int 0)], [.ref 0, .ref 0], h43, 0, 0)) rfl (Nat.le_of_ble_eq_true rfl) (Nat.le_of_ble_eq_true rfl) ?_
  refine ar_get ok_Ho_putOnTape rfl c47 (v := .int 19) rfl (pc' := 35) rfl (Nat.le_of_ble_eq_true rfl) (Nat.le_of_ble_eq_true rfl) ?_
  refine am_steps ok_Ho_putOnTape 2 (x' := (37, [some (.ref 0), some (.int w), some (.int 0)], [.int 20, .ref 0], h43, 0, 0)) rfl (Nat.le_of_ble_eq_true rfl) (Nat.le_of_ble_eq_true rfl) ?_
  refine ar_put ok_Ho_putOnTape rfl c47 (Nat.le_of_ble_eq_true rfl) rfl (fs' := [.ref 1, .int 20, .ref 2, .ref 7, .ref 9, .ref 10, .ref 16, .ref 20]) rfl (pc' := 40) rfl (Nat.le_of_ble_eq_true rfl) (Nat.le_of_ble_eq_true rfl) (fun h50 e51 e52 e53 => ?_)
  have c54 := (e52 1 (by decide)).trans e44
  have fr55 : ∀ q, q ∉ ([1, 0] : List Nat) → h50[q]? = h[q]? := fun q hq => (e52 q (fun z => hq (by rw [z]; decide))).trans (fr48 q (am_sub (by decide) hq))
  have ln56 : h50.length = h.length := e53.trans ln49
  refine am_steps ok_Ho_putOnTape 4 (x' := (46, [some (.ref 0), some (.int w), some (.int (-8))], [], h50, 0, 0)) rfl (Nat.le_of_ble_eq_true rfl) (Nat.le_of_ble_eq_true rfl) ?_
  exact am_ret ok_Ho_putOnTape rfl (Nat.le_of_ble_eq_true rfl) (Nat.le_of_ble_eq_true rfl) ⟨rfl, e51, c54, fun q hq => fr55 q (am_sub (by decide) hq), ln56⟩
set_option maxHeartbeats 4000000 in
set_option maxRecDepth 100000 in
theorem c_feed (a : Int32) (b : Int32) (c : Int32) (d : Int32) (e : Int32) (f : Nat → Int32) (h : am_H) (c_0 : h[0]? = some (.inr (0, [.ref 1, .int 0, .ref 2, .ref 7, .ref 9, .ref 10, .ref 16, .ref 20]))) (c_1 : h[1]? = some (.inl (2, 400, .inl f)))  : am_Me am_Pr none 1 22 0 0 1 [.ref 0, .int a, .int b, .int c, .int d, .int e] h (fun r h' => r = some (.int 1) ∧ h'[0]? = some (.inr (0, [.ref 1, .int 20, .ref 2, .ref 7, .ref 9, .ref 10, .ref 16, .ref 20])) ∧ h'[1]? = some (.inl (2, 400, .inl (upd (upd (upd (upd (upd (upd (upd (upd (upd (upd (upd (upd (upd (upd (upd (upd (upd (upd (upd (upd f 0 (am_bn 2 ((((a >>> (24 &&& 31))).toInt8.toInt32)))) 1 (am_bn 2 ((((a >>> (16 &&& 31))).toInt8.toInt32)))) 2 (am_bn 2 ((((a >>> (8 &&& 31))).toInt8.toInt32)))) 3 (am_bn 2 ((((a >>> (0 &&& 31))).toInt8.toInt32)))) 4 (am_bn 2 ((((b >>> (24 &&& 31))).toInt8.toInt32)))) 5 (am_bn 2 ((((b >>> (16 &&& 31))).toInt8.toInt32)))) 6 (am_bn 2 ((((b >>> (8 &&& 31))).toInt8.toInt32)))) 7 (am_bn 2 ((((b >>> (0 &&& 31))).toInt8.toInt32)))) 8 (am_bn 2 ((((c >>> (24 &&& 31))).toInt8.toInt32)))) 9 (am_bn 2 ((((c >>> (16 &&& 31))).toInt8.toInt32)))) 10 (am_bn 2 ((((c >>> (8 &&& 31))).toInt8.toInt32)))) 11 (am_bn 2 ((((c >>> (0 &&& 31))).toInt8.toInt32)))) 12 (am_bn 2 ((((d >>> (24 &&& 31))).toInt8.toInt32)))) 13 (am_bn 2 ((((d >>> (16 &&& 31))).toInt8.toInt32)))) 14 (am_bn 2 ((((d >>> (8 &&& 31))).toInt8.toInt32)))) 15 (am_bn 2 ((((d >>> (0 &&& 31))).toInt8.toInt32)))) 16 (am_bn 2 ((((e >>> (24 &&& 31))).toInt8.toInt32)))) 17 (am_bn 2 ((((e >>> (16 &&& 31))).toInt8.toInt32)))) 18 (am_bn 2 ((((e >>> (8 &&& 31))).toInt8.toInt32)))) 19 (am_bn 2 ((((e >>> (0 &&& 31))).toInt8.toInt32)))))) ∧ (∀ q, q ∉ ([0, 1] : List Nat) → h'[q]? = h[q]?) ∧ h'.length = h.length) := by
  refine am_enter (d := hd_Ho_feed) rfl (by decide +kernel) (Nat.le_of_ble_eq_true rfl) ?_
  show am_S _ _ _ _ _ _ _ (0, [some (.ref 0), some (.int a), some (.int b), some (.int c), some (.int d), some (.int e)], [], h, 0, 0) _
  refine am_steps ok_Ho_feed 1 (x' := (1, [some (.ref 0), some (.int a), some (.int b), some (.int c), some (.int d), some (.int e)], [.ref 0], h, 0, 0)) rfl (Nat.le_of_ble_eq_true rfl) (Nat.le_of_ble_eq_true rfl) ?_
  refine ar_get ok_Ho_feed rfl c_0 (v := .int 0) rfl (pc' := 4) rfl (Nat.le_of_ble_eq_true rfl) (Nat.le_of_ble_eq_true rfl) ?_
  refine am_steps ok_Ho_feed 6 (x' := (17, [some (.ref 0), some (.int a), some (.int b), some (.int c), some (.int d), some (.int e)], [.int a, .ref 0], h, 0, 0)) rfl (Nat.le_of_ble_eq_true rfl) (Nat.le_of_ble_eq_true rfl) ?_
  refine ar_cv ok_Ho_feed hk_Ho_putOnTape rfl rfl (As := [.int a]) (ad := 0) (rest := []) rfl rfl c_0 (by decide) (c_put_0 a f h c_0 c_1 ) (Nat.le_of_ble_eq_true rfl) (Nat.le_of_ble_eq_true rfl) (Nat.le_of_ble_eq_true rfl) (Nat.le_of_ble_eq_true rfl) (pc' := 20) rfl (fun r1 h2 q3 => ?_)
  obtain ⟨rfl, e4, e5, f6, l7⟩ := q3
  show am_S _ _ _ _ _ _ _ (20, [some (.ref 0), some (.int a), some (.int b), some (.int c), some (.int d), some (.int e)], [], h2, 0, 0) _
  have fr8 : ∀ q, q ∉ ([0, 1] : List Nat) → h2[q]? = h[q]? := fun q hq => f6 q (am_sub (by decide) hq)
  have ln9 : h2.length = h.length := l7
  refine am_steps ok_Ho_feed 2 (x' := (22, [some (.ref 0), some (.int a), some (.int b), some (.int c), some (.int d), some (.int e)], [.int b, .ref 0], h2, 0, 0)) rfl (Nat.le_of_ble_eq_true rfl) (Nat.le_of_ble_eq_true rfl) ?_
  refine ar_cv ok_Ho_feed hk_Ho_putOnTape rfl rfl (As := [.int b]) (ad := 0) (rest := []) rfl rfl e4 (by decide) (c_put_4 b (upd (upd (upd (upd f 0 (am_bn 2 ((((a >>> (24 &&& 31))).toInt8.toInt32)))) 1 (am_bn 2 ((((a >>> (16 &&& 31))).toInt8.toInt32)))) 2 (am_bn 2 ((((a >>> (8 &&& 31))).toInt8.toInt32)))) 3 (am_bn 2 ((((a >>> (0 &&& 31))).toInt8.toInt32)))) h2 e4 e5 ) (Nat.le_of_ble_eq_true rfl) (Nat.le_of_ble_eq_true rfl) (Nat.le_of_ble_eq_true rfl) (Nat.le_of_ble_eq_true rfl) (pc' := 25) rfl (fun r10 h11 q12 => ?_)
  obtain ⟨rfl, e13, e14, f15, l16⟩ := q12
  show am_S _ _ _ _ _ _ _ (25, [some (.ref 0), some (.int a), some (.int b), some (.int c), some (.int d), some (.int e)], [], h11, 0, 0) _
  have fr17 : ∀ q, q ∉ ([0, 1] : List Nat) → h11[q]? = h[q]? := fun q hq => (f15 q (am_sub (by decide) hq)).trans (fr8 q (am_sub (by decide) hq))
  have ln18 : h11.length = h.length := l16.trans ln9
  refine am_steps ok_Ho_feed 2 (x' := (27, [some (.ref 0), some (.int a), some (.int b), some (.int c), some (.int d), some (.int e)], [.int c, .ref 0], h11, 0, 0)) rfl (Nat.le_of_ble_eq_true rfl) (Nat.le_of_ble_eq_true rfl) ?_
  refine ar_cv ok_Ho_feed hk_Ho_putOnTape rfl rfl (As := [.int c]) (ad := 0) (rest := []) rfl rfl e13 (by decide) (c_put_8 c (upd (upd (upd (upd (upd (upd (upd (upd f 0 (am_bn 2 ((((a >>> (24 &&& 31))).toInt8.toInt32)))) 1 (am_bn 2 ((((a >>> (16 &&& 31))).toInt8.toInt32)))) 2 (am_bn 2 ((((a >>> (8 &&& 31))).toInt8.toInt32)))) 3 (am_bn 2 ((((a >>> (0 &&& 31))).toInt8.toInt32)))) 4 (am_bn 2 ((((b >>> (24 &&& 31))).toInt8.toInt32)))) 5 (am_bn 2 ((((b >>> (16 &&& 31))).toInt8.toInt32)))) 6 (am_bn 2 ((((b >>> (8 &&& 31))).toInt8.toInt32)))) 7 (am_bn 2 ((((b >>> (0 &&& 31))).toInt8.toInt32)))) h11 e13 e14 ) (Nat.le_of_ble_eq_true rfl) (Nat.le_of_ble_eq_true rfl) (Nat.le_of_ble_eq_true rfl) (Nat.le_of_ble_eq_true rfl) (pc' := 30) rfl (fun r19 h20 q21 => ?_)
  obtain ⟨rfl, e22, e23, f24, l25⟩ := q21
  show am_S _ _ _ _ _ _ _ (30, [some (.ref 0), some (.int a), some (.int b), some (.int c), some (.int d), some (.int e)], [], h20, 0, 0) _
  have fr26 : ∀ q, q ∉ ([0, 1] : List Nat) → h20[q]? = h[q]? := fun q hq => (f24 q (am_sub (by decide) hq)).trans (fr17 q (am_sub (by decide) hq))
  have ln27 : h20.length = h.length := l25.trans ln18
  refine am_steps ok_Ho_feed 2 (x' := (33, [some (.ref 0), some (.int a), some (.int b), some (.int c), some (.int d), some (.int e)], [.int d, .ref 0], h20, 0, 0)) rfl (Nat.le_of_ble_eq_true rfl) (Nat.le_of_ble_eq_true rfl) ?_
  refine ar_cv ok_Ho_feed hk_Ho_putOnTape rfl rfl (As := [.int d]) (ad := 0) (rest := []) rfl rfl e22 (by decide) (c_put_12 d (upd (upd (upd (upd (upd (upd (upd (upd (upd (upd (upd (upd f 0 (am_bn 2 ((((a >>> (24 &&& 31))).toInt8.toInt32)))) 1 (am_bn 2 ((((a >>> (16 &&& 31))).toInt8.toInt32)))) 2 (am_bn 2 ((((a >>> (8 &&& 31))).toInt8.toInt32)))) 3 (am_bn 2 ((((a >>> (0 &&& 31))).toInt8.toInt32)))) 4 (am_bn 2 ((((b >>> (24 &&& 31))).toInt8.toInt32)))) 5 (am_bn 2 ((((b >>> (16 &&& 31))).toInt8.toInt32)))) 6 (am_bn 2 ((((b >>> (8 &&& 31))).toInt8.toInt32)))) 7 (am_bn 2 ((((b >>> (0 &&& 31))).toInt8.toInt32)))) 8 (am_bn 2 ((((c >>> (24 &&& 31))).toInt8.toInt32)))) 9 (am_bn 2 ((((c >>> (16 &&& 31))).toInt8.toInt32)))) 10 (am_bn 2 ((((c >>> (8 &&& 31))).toInt8.toInt32)))) 11 (am_bn 2 ((((c >>> (0 &&& 31))).toInt8.toInt32)))) h20 e22 e23 ) (Nat.le_of_ble_eq_true rfl) (Nat.le_of_ble_eq_true rfl) (Nat.le_of_ble_eq_true rfl) (Nat.le_of_ble_eq_true rfl) (pc' := 36) rfl (fun r28 h29 q30 => ?_)
  obtain ⟨rfl, e31, e32, f33, l34⟩ := q30
  show am_S _ _ _ _ _ _ _ (36, [some (.ref 0), some (.int a), some (.int b), some (.int c), some (.int d), some (.int e)], [], h29, 0, 0) _
  have fr35 : ∀ q, q ∉ ([0, 1] : List Nat) → h29[q]? = h[q]? := fun q hq => (f33 q (am_sub (by decide) hq)).trans (fr26 q (am_sub (by decide) hq))
  have ln36 : h29.length = h.length := l34.trans ln27
  refine am_steps ok_Ho_feed 2 (x' := (39, [some (.ref 0), some (.int a), some (.int b), some (.int c), some (.int d), some (.int e)], [.int e, .ref 0], h29, 0, 0)) rfl (Nat.le_of_ble_eq_true rfl) (Nat.le_of_ble_eq_true rfl) ?_
  refine ar_cv ok_Ho_feed hk_Ho_putOnTape rfl rfl (As := [.int e]) (ad := 0) (rest := []) rfl rfl e31 (by decide) (c_put_16 e (upd (upd (upd (upd (upd (upd (upd (upd (upd (upd (upd (upd (upd (upd (upd (upd f 0 (am_bn 2 ((((a >>> (24 &&& 31))).toInt8.toInt32)))) 1 (am_bn 2 ((((a >>> (16 &&& 31))).toInt8.toInt32)))) 2 (am_bn 2 ((((a >>> (8 &&& 31))).toInt8.toInt32)))) 3 (am_bn 2 ((((a >>> (0 &&& 31))).toInt8.toInt32)))) 4 (am_bn 2 ((((b >>> (24 &&& 31))).toInt8.toInt32)))) 5 (am_bn 2 ((((b >>> (16 &&& 31))).toInt8.toInt32)))) 6 (am_bn 2 ((((b >>> (8 &&& 31))).toInt8.toInt32)))) 7 (am_bn 2 ((((b >>> (0 &&& 31))).toInt8.toInt32)))) 8 (am_bn 2 ((((c >>> (24 &&& 31))).toInt8.toInt32)))) 9 (am_bn 2 ((((c >>> (16 &&& 31))).toInt8.toInt32)))) 10 (am_bn 2 ((((c >>> (8 &&& 31))).toInt8.toInt32)))) 11 (am_bn 2 ((((c >>> (0 &&& 31))).toInt8.toInt32)))) 12 (am_bn 2 ((((d >>> (24 &&& 31))).toInt8.toInt32)))) 13 (am_bn 2 ((((d >>> (16 &&& 31))).toInt8.toInt32)))) 14 (am_bn 2 ((((d >>> (8 &&& 31))).toInt8.toInt32)))) 15 (am_bn 2 ((((d >>> (0 &&& 31))).toInt8.toInt32)))) h29 e31 e32 ) (Nat.le_of_ble_eq_true rfl) (Nat.le_of_ble_eq_true rfl) (Nat.le_of_ble_eq_true rfl) (Nat.le_of_ble_eq_true rfl) (pc' := 42) rfl (fun r37 h38 q39 => ?_)
  obtain ⟨rfl, e40, e41, f42, l43⟩ := q39
  show am_S _ _ _ _ _ _ _ (42, [some (.ref 0), some (.int a), some (.int b), some (.int c), some (.int d), some (.int e)], [], h38, 0, 0) _
  have fr44 : ∀ q, q ∉ ([0, 1] : List Nat) → h38[q]? = h[q]? := fun q hq => (f42 q (am_sub (by decide) hq)).trans (fr35 q (am_sub (by decide) hq))
  have ln45 : h38.length = h.length := l43.trans ln36
  refine am_steps ok_Ho_feed 1 (x' := (43, [some (.ref 0), some (.int a), some (.int b), some (.int c), some (.int d), some (.int e)], [.int 1], h38, 0, 0)) rfl (Nat.le_of_ble_eq_true rfl) (Nat.le_of_ble_eq_true rfl) ?_
  exact am_ret ok_Ho_feed rfl (Nat.le_of_ble_eq_true rfl) (Nat.le_of_ble_eq_true rfl) ⟨rfl, e40, e41, fun q hq => fr44 q (am_sub (by decide) hq), ln45⟩
