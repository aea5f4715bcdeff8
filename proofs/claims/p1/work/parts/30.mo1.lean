/-! The reference on its fresh state. -/
def mo (ts tc dy tk ch bl jo : Int32) : List Value := [.ref 23, .int ts, .ref 24, .int 0, .int 0, .int 0, .ref 25, .int 0, .int 0, .ref 26, .int 1, .ref 27, .ref 28, .ref 29, .ref 30, .int 0, .int (-1), .ref 31, .ref 32, .ref 33, .ref 34, .ref 35, .ref 36, .ref 37, .ref 38, .int 0, .ref 39, .ref 40, .ref 41, .ref 42, .int tc, .int 0, .int 0, .ref 43, .ref 44, .ref 45, .ref 46, .ref 47, .ref 48, .ref 49, .ref 50, .ref 51, .ref 52, .ref 53, .ref 54, .long 0, .ref 55, .ref 56, .int 0, .ref 57, .ref 58, .ref 59, .long 0, .int 0, .int 0, .int dy, .int tk, .int 1, .int ch, .int bl, .int jo, .int 0]
theorem am_ix_nI {i N : Nat} (h : i < N) (hN : N < 2 ^ 31) : am_ix (nI i) N = some i := by
  unfold am_ix
  rw [if_neg (nI_in h hN), nI_clamp (Nat.lt_trans h hN)]
theorem am_nlt {i N : Nat} (hi : i < 2 ^ 31) (h : ¬ nI N ≤ nI i) : i < N := by
  rcases Nat.lt_or_ge i N with q | q
  · exact q
  · exact absurd (nI_le q hi) h
set_option maxHeartbeats 4000000 in
set_option maxRecDepth 100000 in
theorem m_push_0 (w : Int32) (f : Nat → Int32) (h : am_H) (c_22 : h[22]? = some (.inr (1, mo 0 0 0 0 (-1) 0 0))) (c_23 : h[23]? = some (.inl (2, 400, .inl f)))  : am_Me am_Pr none 0 0 0 0 14 [.ref 22, .int w] h (fun r h' => r = none ∧ h'[22]? = some (.inr (1, mo 4 0 0 0 (-1) 0 0)) ∧ h'[23]? = some (.inl (2, 400, .inl (upd (upd (upd (upd f 0 (am_bn 2 ((((w >>> (24 &&& 31))).toInt8.toInt32)))) 1 (am_bn 2 ((((w >>> (16 &&& 31))).toInt8.toInt32)))) 2 (am_bn 2 ((((w >>> (8 &&& 31))).toInt8.toInt32)))) 3 (am_bn 2 ((((w >>> (0 &&& 31))).toInt8.toInt32)))))) ∧ (∀ q, q ∉ ([22, 23] : List Nat) → h'[q]? = h[q]?) ∧ h'.length = h.length) := by
  refine am_enter (d := hd_Mo_push) rfl (by decide +kernel) (Nat.le_of_ble_eq_true rfl) ?_
  show am_S _ _ _ _ _ _ _ (0, [some (.ref 22), some (.int w), none], [], h, 0, 0) _
  refine am_steps ok_Mo_push 5 (x' := (8, [some (.ref 22), some (.int w), some (.int 24)], [.ref 22], h, 0, 0)) rfl (Nat.le_of_ble_eq_true rfl) (Nat.le_of_ble_eq_true rfl) ?_
  refine ar_get ok_Mo_push rfl c_22 (v := .ref 23) rfl (pc' := 11) rfl (Nat.le_of_ble_eq_true rfl) (Nat.le_of_ble_eq_true rfl) ?_
  refine am_steps ok_Mo_push 1 (x' := (12, [some (.ref 22), some (.int w), some (.int 24)], [.ref 22, .ref 23], h, 0, 0)) rfl (Nat.le_of_ble_eq_true rfl) (Nat.le_of_ble_eq_true rfl) ?_
  refine ar_get ok_Mo_push rfl c_22 (v := .int 0) rfl (pc' := 15) rfl (Nat.le_of_ble_eq_true rfl) (Nat.le_of_ble_eq_true rfl) ?_
  refine am_steps ok_Mo_push 4 (x' := (19, [some (.ref 22), some (.int w), some (.int 24)], [.int (((w >>> (24 &&& 31))).toInt8.toInt32), .int 0, .ref 23], h, 0, 0)) rfl (Nat.le_of_ble_eq_true rfl) (Nat.le_of_ble_eq_true rfl) ?_
  refine ar_bast ok_Mo_push rfl c_23 (Or.inl rfl) (jx := 0) rfl (pc' := 20) rfl (Nat.le_of_ble_eq_true rfl) (Nat.le_of_ble_eq_true rfl) (fun h1 e2 e3 e4 => ?_)
  have c5 := (e3 22 (by decide)).trans c_22
  have fr6 : ∀ q, q ∉ ([23] : List Nat) → h1[q]? = h[q]? := fun q hq => e3 q (fun z => hq (by rw [z]; decide))
  have ln7 : h1.length = h.length := e4
  refine am_steps ok_Mo_push 2 (x' := (22, [some (.ref 22), some (.int w), some (.int 24)], [.ref 22, .ref 22], h1, 0, 0)) rfl (Nat.le_of_ble_eq_true rfl) (Nat.le_of_ble_eq_true rfl) ?_
  refine ar_get ok_Mo_push rfl c5 (v := .int 0) rfl (pc' := 25) rfl (Nat.le_of_ble_eq_true rfl) (Nat.le_of_ble_eq_true rfl) ?_
  refine am_steps ok_Mo_push 2 (x' := (27, [some (.ref 22), some (.int w), some (.int 24)], [.int 1, .ref 22], h1, 0, 0)) rfl (Nat.le_of_ble_eq_true rfl) (Nat.le_of_ble_eq_true rfl) ?_
  refine ar_put ok_Mo_push rfl c5 (Nat.le_of_ble_eq_true rfl) rfl (fs' := [.ref 23, .int 1, .ref 24, .int 0, .int 0, .int 0, .ref 25, .int 0, .int 0, .ref 26, .int 1, .ref 27, .ref 28, .ref 29, .ref 30, .int 0, .int (-1), .ref 31, .ref 32, .ref 33, .ref 34, .ref 35, .ref 36, .ref 37, .ref 38, .int 0, .ref 39, .ref 40, .ref 41, .ref 42, .int 0, .int 0, .int 0, .ref 43, .ref 44, .ref 45, .ref 46, .ref 47, .ref 48, .ref 49, .ref 50, .ref 51, .ref 52, .ref 53, .ref 54, .long 0, .ref 55, .ref 56, .int 0, .ref 57, .ref 58, .ref 59, .long 0, .int 0, .int 0, .int 0, .int 0, .int 1, .int (-1), .int 0, .int 0, .int 0]) rfl (pc' := 30) rfl (Nat.le_of_ble_eq_true rfl) (Nat.le_of_ble_eq_true rfl) (fun h8 e9 e10 e11 => ?_)
  have c12 := (e10 23 (by decide)).trans e2
  have fr13 : ∀ q, q ∉ ([23, 22] : List Nat) → h8[q]? = h[q]? := fun q hq => (e10 q (fun z => hq (by rw [z]; decide))).trans (fr6 q (am_sub (by decide) hq))
  have ln14 : h8.length = h.length := e11.trans ln7
  refine am_steps ok_Mo_push 5 (x' := (8, [some (.ref 22), some (.int w), some (.int 16)], [.ref 22], h8, 0, 0)) rfl (Nat.le_of_ble_eq_true rfl) (Nat.le_of_ble_eq_true rfl) ?_
  refine ar_get ok_Mo_push rfl e9 (v := .ref 23) rfl (pc' := 11) rfl (Nat.le_of_ble_eq_true rfl) (Nat.le_of_ble_eq_true rfl) ?_
  refine am_steps ok_Mo_push 1 (x' := (12, [some (.ref 22), some (.int w), some (.int 16)], [.ref 22, .ref 23], h8, 0, 0)) rfl (Nat.le_of_ble_eq_true rfl) (Nat.le_of_ble_eq_true rfl) ?_
  refine ar_get ok_Mo_push rfl e9 (v := .int 1) rfl (pc' := 15) rfl (Nat.le_of_ble_eq_true rfl) (Nat.le_of_ble_eq_true rfl) ?_
  refine am_steps ok_Mo_push 4 (x' := (19, [some (.ref 22), some (.int w), some (.int 16)], [.int (((w >>> (16 &&& 31))).toInt8.toInt32), .int 1, .ref 23], h8, 0, 0)) rfl (Nat.le_of_ble_eq_true rfl) (Nat.le_of_ble_eq_true rfl) ?_
  refine ar_bast ok_Mo_push rfl c12 (Or.inl rfl) (jx := 1) rfl (pc' := 20) rfl (Nat.le_of_ble_eq_true rfl) (Nat.le_of_ble_eq_true rfl) (fun h15 e16 e17 e18 => ?_)
  have c19 := (e17 22 (by decide)).trans e9
  have fr20 : ∀ q, q ∉ ([23, 22] : List Nat) → h15[q]? = h[q]? := fun q hq => (e17 q (fun z => hq (by rw [z]; decide))).trans (fr13 q (am_sub (by decide) hq))
  have ln21 : h15.length = h.length := e18.trans ln14
  refine am_steps ok_Mo_push 2 (x' := (22, [some (.ref 22), some (.int w), some (.int 16)], [.ref 22, .ref 22], h15, 0, 0)) rfl (Nat.le_of_ble_eq_true rfl) (Nat.le_of_ble_eq_true rfl) ?_
  refine ar_get ok_Mo_push rfl c19 (v := .int 1) rfl (pc' := 25) rfl (Nat.le_of_ble_eq_true rfl) (Nat.le_of_ble_eq_true rfl) ?_
  refine am_steps ok_Mo_push 2 (x' := (27, [some (.ref 22), some (.int w), some (.int 16)], [.int 2, .ref 22], h15, 0, 0)) rfl (Nat.le_of_ble_eq_true rfl) (Nat.le_of_ble_eq_true rfl) ?_
  refine ar_put ok_Mo_push rfl c19 (Nat.le_of_ble_eq_true rfl) rfl (fs' := [.ref 23, .int 2, .ref 24, .int 0, .int 0, .int 0, .ref 25, .int 0, .int 0, .ref 26, .int 1, .ref 27, .ref 28, .ref 29, .ref 30, .int 0, .int (-1), .ref 31, .ref 32, .ref 33, .ref 34, .ref 35, .ref 36, .ref 37, .ref 38, .int 0, .ref 39, .ref 40, .ref 41, .ref 42, .int 0, .int 0, .int 0, .ref 43, .ref 44, .ref 45, .ref 46, .ref 47, .ref 48, .ref 49, .ref 50, .ref 51, .ref 52, .ref 53, .ref 54, .long 0, .ref 55, .ref 56, .int 0, .ref 57, .ref 58, .ref 59, .long 0, .int 0, .int 0, .int 0, .int 0, .int 1, .int (-1), .int 0, .int 0, .int 0]) rfl (pc' := 30) rfl (Nat.le_of_ble_eq_true rfl) (Nat.le_of_ble_eq_true rfl) (fun h22 e23 e24 e25 => ?_)
  have c26 := (e24 23 (by decide)).trans e16
  have fr27 : ∀ q, q ∉ ([23, 22] : List Nat) → h22[q]? = h[q]? := fun q hq => (e24 q (fun z => hq (by rw [z]; decide))).trans (fr20 q (am_sub (by decide) hq))
  have ln28 : h22.length = h.length := e25.trans ln21
  refine am_steps ok_Mo_push 5 (x' := (8, [some (.ref 22), some (.int w), some (.int 8)], [.ref 22], h22, 0, 0)) rfl (Nat.le_of_ble_eq_true rfl) (Nat.le_of_ble_eq_true rfl) ?_
  refine ar_get ok_Mo_push rfl e23 (v := .ref 23) rfl (pc' := 11) rfl (Nat.le_of_ble_eq_true rfl) (Nat.le_of_ble_eq_true rfl) ?_
  refine am_steps ok_Mo_push 1 (x' := (12, [some (.ref 22), some (.int w), some (.int 8)], [.ref 22, .ref 23], h22, 0, 0)) rfl (Nat.le_of_ble_eq_true rfl) (Nat.le_of_ble_eq_true rfl) ?_
  refine ar_get ok_Mo_push rfl e23 (v := .int 2) rfl (pc' := 15) rfl (Nat.le_of_ble_eq_true rfl) (Nat.le_of_ble_eq_true rfl) ?_
  refine am_steps ok_Mo_push 4 (x' := (19, [some (.ref 22), some (.int w), some (.int 8)], [.int (((w >>> (8 &&& 31))).toInt8.toInt32), .int 2, .ref 23], h22, 0, 0)) rfl (Nat.le_of_ble_eq_true rfl) (Nat.le_of_ble_eq_true rfl) ?_
  refine ar_bast ok_Mo_push rfl c26 (Or.inl rfl) (jx := 2) rfl (pc' := 20) rfl (Nat.le_of_ble_eq_true rfl) (Nat.le_of_ble_eq_true rfl) (fun h29 e30 e31 e32 => ?_)
  have c33 := (e31 22 (by decide)).trans e23
  have fr34 : ∀ q, q ∉ ([23, 22] : List Nat) → h29[q]? = h[q]? := fun q hq => (e31 q (fun z => hq (by rw [z]; decide))).trans (fr27 q (am_sub (by decide) hq))
  have ln35 : h29.length = h.length := e32.trans ln28
  refine am_steps ok_Mo_push 2 (x' := (22, [some (.ref 22), some (.int w), some (.int 8)], [.ref 22, .ref 22], h29, 0, 0)) rfl (Nat.le_of_ble_eq_true rfl) (Nat.le_of_ble_eq_true rfl) ?_
  refine ar_get ok_Mo_push rfl c33 (v := .int 2) rfl (pc' := 25) rfl (Nat.le_of_ble_eq_true rfl) (Nat.le_of_ble_eq_true rfl) ?_
  refine am_steps ok_Mo_push 2 (x' := (27, [some (.ref 22), some (.int w), some (.int 8)], [.int 3, .ref 22], h29, 0, 0)) rfl (Nat.le_of_ble_eq_true rfl) (Nat.le_of_ble_eq_true rfl) ?_
  refine ar_put ok_Mo_push rfl c33 (Nat.le_of_ble_eq_true rfl) rfl (fs' := [.ref 23, .int 3, .ref 24, .int 0, .int 0, .int 0, .ref 25, .int 0, .int 0, .ref 26, .int 1, .ref 27, .ref 28, .ref 29, .ref 30, .int 0, .int (-1), .ref 31, .ref 32, .ref 33, .ref 34, .ref 35, .ref 36, .ref 37, .ref 38, .int 0, .ref 39, .ref 40, .ref 41, .ref 42, .int 0, .int 0, .int 0, .ref 43, .ref 44, .ref 45, .ref 46, .ref 47, .ref 48, .ref 49, .ref 50, .ref 51, .ref 52, .ref 53, .ref 54, .long 0, .ref 55, .ref 56, .int 0, .ref 57, .ref 58, .ref 59, .long 0, .int 0, .int 0, .int 0, .int 0, .int 1, .int (-1), .int 0, .int 0, .int 0]) rfl (pc' := 30) rfl (Nat.le_of_ble_eq_true rfl) (Nat.le_of_ble_eq_true rfl) (fun h36 e37 e38 e39 => ?_)
  have c40 := (e38 23 (by decide)).trans e30
  have fr41 : ∀ q, q ∉ ([23, 22] : List Nat) → h36[q]? = h[q]? := fun q hq => (e38 q (fun z => hq (by rw [z]; decide))).trans (fr34 q (am_sub (by decide) hq))
  have ln42 : h36.length = h.length := e39.trans ln35
  refine am_steps ok_Mo_push 5 (x' := (8, [some (.ref 22), some (.int w), some (.int 0)], [.ref 22], h36, 0, 0)) rfl (Nat.le_of_ble_eq_true rfl) (Nat.le_of_ble_eq_true rfl) ?_
  refine ar_get ok_Mo_push rfl e37 (v := .ref 23) rfl (pc' := 11) rfl (Nat.le_of_ble_eq_true rfl) (Nat.le_of_ble_eq_true rfl) ?_
  refine am_steps ok_Mo_push 1 (x' := (12, [some (.ref 22), some (.int w), some (.int 0)], [.ref 22, .ref 23], h36, 0, 0)) rfl (Nat.le_of_ble_eq_true rfl) (Nat.le_of_ble_eq_true rfl) ?_
  refine ar_get ok_Mo_push rfl e37 (v := .int 3) rfl (pc' := 15) rfl (Nat.le_of_ble_eq_true rfl) (Nat.le_of_ble_eq_true rfl) ?_
  refine am_steps ok_Mo_push 4 (x' := (19, [some (.ref 22), some (.int w), some (.int 0)], [.int (((w >>> (0 &&& 31))).toInt8.toInt32), .int 3, .ref 23], h36, 0, 0)) rfl (Nat.le_of_ble_eq_true rfl) (Nat.le_of_ble_eq_true rfl) ?_
  refine ar_bast ok_Mo_push rfl c40 (Or.inl rfl) (jx := 3) rfl (pc' := 20) rfl (Nat.le_of_ble_eq_true rfl) (Nat.le_of_ble_eq_true rfl) (fun h43 e44 e45 e46 => ?_)
  have c47 := (e45 22 (by decide)).trans e37
  have fr48 : ∀ q, q ∉ ([23, 22] : List Nat) → h43[q]? = h[q]? := fun q hq => (e45 q (fun z => hq (by rw [z]; decide))).trans (fr41 q (am_sub (by decide) hq))
  have ln49 : h43.length = h.length := e46.trans ln42
  refine am_steps ok_Mo_push 2 (x' := (22, [some (.ref 22), some (.int w), some (.int 0)], [.ref 22, .ref 22], h43, 0, 0)) rfl (Nat.le_of_ble_eq_true rfl) (Nat.le_of_ble_eq_true rfl) ?_
  refine ar_get ok_Mo_push rfl c47 (v := .int 3) rfl (pc' := 25) rfl (Nat.le_of_ble_eq_true rfl) (Nat.le_of_ble_eq_true rfl) ?_
  refine am_steps ok_Mo_push 2 (x' := (27, [some (.ref 22), some (.int w), some (.int 0)], [.int 4, .ref 22], h43, 0, 0)) rfl (Nat.le_of_ble_eq_true rfl) (Nat.le_of_ble_eq_true rfl) ?_
  refine ar_put ok_Mo_push rfl c47 (Nat.le_of_ble_eq_true rfl) rfl (fs' := [.ref 23, .int 4, .ref 24, .int 0, .int 0, .int 0, .ref 25, .int 0, .int 0, .ref 26, .int 1, .ref 27, .ref 28, .ref 29, .ref 30, .int 0, .int (-1), .ref 31, .ref 32, .ref 33, .ref 34, .ref 35, .ref 36, .ref 37, .ref 38, .int 0, .ref 39, .ref 40, .ref 41, .ref 42, .int 0, .int 0, .int 0, .ref 43, .ref 44, .ref 45, .ref 46, .ref 47, .ref 48, .ref 49, .ref 50, .ref 51, .ref 52, .ref 53, .ref 54, .long 0, .ref 55, .ref 56, .int 0, .ref 57, .ref 58, .ref 59, .long 0, .int 0, .int 0, .int 0, .int 0, .int 1, .int (-1), .int 0, .int 0, .int 0]) rfl (pc' := 30) rfl (Nat.le_of_ble_eq_true rfl) (Nat.le_of_ble_eq_true rfl) (fun h50 e51 e52 e53 => ?_)
  have c54 := (e52 23 (by decide)).trans e44
  have fr55 : ∀ q, q ∉ ([23, 22] : List Nat) → h50[q]? = h[q]? := fun q hq => (e52 q (fun z => hq (by rw [z]; decide))).trans (fr48 q (am_sub (by decide) hq))
  have ln56 : h50.length = h.length := e53.trans ln49
  refine am_steps ok_Mo_push 4 (x' := (36, [some (.ref 22), some (.int w), some (.int (-8))], [], h50, 0, 0)) rfl (Nat.le_of_ble_eq_true rfl) (Nat.le_of_ble_eq_true rfl) ?_
  exact am_ret ok_Mo_push rfl (Nat.le_of_ble_eq_true rfl) (Nat.le_of_ble_eq_true rfl) ⟨rfl, e51, c54, fun q hq => fr55 q (am_sub (by decide) hq), ln56⟩
set_option maxHeartbeats 4000000 in
set_option maxRecDepth 100000 in
theorem m_push_4 (w : Int32) (f : Nat → Int32) (h : am_H) (c_22 : h[22]? = some (.inr (1, mo 4 0 0 0 (-1) 0 0))) (c_23 : h[23]? = some (.inl (2, 400, .inl f)))  : am_Me am_Pr none 0 0 0 0 14 [.ref 22, .int w] h (fun r h' => r = none ∧ h'[22]? = some (.inr (1, mo 8 0 0 0 (-1) 0 0)) ∧ h'[23]? = some (.inl (2, 400, .inl (upd (upd (upd (upd f 4 (am_bn 2 ((((w >>> (24 &&& 31))).toInt8.toInt32)))) 5 (am_bn 2 ((((w >>> (16 &&& 31))).toInt8.toInt32)))) 6 (am_bn 2 ((((w >>> (8 &&& 31))).toInt8.toInt32)))) 7 (am_bn 2 ((((w >>> (0 &&& 31))).toInt8.toInt32)))))) ∧ (∀ q, q ∉ ([22, 23] : List Nat) → h'[q]? = h[q]?) ∧ h'.length = h.length) := by
  refine am_enter (d := hd_Mo_push) rfl (by decide +kernel) (Nat.le_of_ble_eq_true rfl) ?_
  show am_S _ _ _ _ _ _ _ (0, [some (.ref 22), some (.int w), none], [], h, 0, 0) _
  refine am_steps ok_Mo_push 5 (x' := (8, [some (.ref 22), some (.int w), some (.int 24)], [.ref 22], h, 0, 0)) rfl (Nat.le_of_ble_eq_true rfl) (Nat.le_of_ble_eq_true rfl) ?_
  refine ar_get ok_Mo_push rfl c_22 (v := .ref 23) rfl (pc' := 11) rfl (Nat.le_of_ble_eq_true rfl) (Nat.le_of_ble_eq_true rfl) ?_
  refine am_steps ok_Mo_push 1 (x' := (12, [some (.ref 22), some (.int w), some (.int 24)], [.ref 22, .ref 23], h, 0, 0)) rfl (Nat.le_of_ble_eq_true rfl) (Nat.le_of_ble_eq_true rfl) ?_
  refine ar_get ok_Mo_push rfl c_22 (v := .int 4) rfl (pc' := 15) rfl (Nat.le_of_ble_eq_true rfl) (Nat.le_of_ble_eq_true rfl) ?_
  refine am_steps ok_Mo_push 4 (x' := (19, [some (.ref 22), some (.int w), some (.int 24)], [.int (((w >>> (24 &&& 31))).toInt8.toInt32), .int 4, .ref 23], h, 0, 0)) rfl (Nat.le_of_ble_eq_true rfl) (Nat.le_of_ble_eq_true rfl) ?_
  refine ar_bast ok_Mo_push rfl c_23 (Or.inl rfl) (jx := 4) rfl (pc' := 20) rfl (Nat.le_of_ble_eq_true rfl) (Nat.le_of_ble_eq_true rfl) (fun h1 e2 e3 e4 => ?_)
  have c5 := (e3 22 (by decide)).trans c_22
  have fr6 : ∀ q, q ∉ ([23] : List Nat) → h1[q]? = h[q]? := fun q hq => e3 q (fun z => hq (by rw [z]; decide))
  have ln7 : h1.length = h.length := e4
  refine am_steps ok_Mo_push 2 (x' := (22, [some (.ref 22), some (.int w), some (.int 24)], [.ref 22, .ref 22], h1, 0, 0)) rfl (Nat.le_of_ble_eq_true rfl) (Nat.le_of_ble_eq_true rfl) ?_
  refine ar_get ok_Mo_push rfl c5 (v := .int 4) rfl (pc' := 25) rfl (Nat.le_of_ble_eq_true rfl) (Nat.le_of_ble_eq_true rfl) ?_
  refine am_steps ok_Mo_push 2 (x' := (27, [some (.ref 22), some (.int w), some (.int 24)], [.int 5, .ref 22], h1, 0, 0)) rfl (Nat.le_of_ble_eq_true rfl) (Nat.le_of_ble_eq_true rfl) ?_
  refine ar_put ok_Mo_push rfl c5 (Nat.le_of_ble_eq_true rfl) rfl (fs' := [.ref 23, .int 5, .ref 24, .int 0, .int 0, .int 0, .ref 25, .int 0, .int 0, .ref 26, .int 1, .ref 27, .ref 28, .ref 29, .ref 30, .int 0, .int (-1), .ref 31, .ref 32, .ref 33, .ref 34, .ref 35, .ref 36, .ref 37, .ref 38, .int 0, .ref 39, .ref 40, .ref 41, .ref 42, .int 0, .int 0, .int 0, .ref 43, .ref 44, .ref 45, .ref 46, .ref 47, .ref 48, .ref 49, .ref 50, .ref 51, .ref 52, .ref 53, .ref 54, .long 0, .ref 55, .ref 56, .int 0, .ref 57, .ref 58, .ref 59, .long 0, .int 0, .int 0, .int 0, .int 0, .int 1, .int (-1), .int 0, .int 0, .int 0]) rfl (pc' := 30) rfl (Nat.le_of_ble_eq_true rfl) (Nat.le_of_ble_eq_true rfl) (fun h8 e9 e10 e11 => ?_)
  have c12 := (e10 23 (by decide)).trans e2
  have fr13 : ∀ q, q ∉ ([23, 22] : List Nat) → h8[q]? = h[q]? := fun q hq => (e10 q (fun z => hq (by rw [z]; decide))).trans (fr6 q (am_sub (by decide) hq))
  have ln14 : h8.length = h.length := e11.trans ln7
  refine am_steps ok_Mo_push 5 (x' := (8, [some (.ref 22), some (.int w), some (.int 16)], [.ref 22], h8, 0, 0)) rfl (Nat.le_of_ble_eq_true rfl) (Nat.le_of_ble_eq_true rfl) ?_
  refine ar_get ok_Mo_push rfl e9 (v := .ref 23) rfl (pc' := 11) rfl (Nat.le_of_ble_eq_true rfl) (Nat.le_of_ble_eq_true rfl) ?_
  refine am_steps ok_Mo_push 1 (x' := (12, [some (.ref 22), some (.int w), some (.int 16)], [.ref 22, .ref 23], h8, 0, 0)) rfl (Nat.le_of_ble_eq_true rfl) (Nat.le_of_ble_eq_true rfl) ?_
  refine ar_get ok_Mo_push rfl e9 (v := .int 5) rfl (pc' := 15) rfl (Nat.le_of_ble_eq_true rfl) (Nat.le_of_ble_eq_true rfl) ?_
  refine am_steps ok_Mo_push 4 (x' := (19, [some (.ref 22), some (.int w), some (.int 16)], [.int (((w >>> (16 &&& 31))).toInt8.toInt32), .int 5, .ref 23], h8, 0, 0)) rfl (Nat.le_of_ble_eq_true rfl) (Nat.le_of_ble_eq_true rfl) ?_
  refine ar_bast ok_Mo_push rfl c12 (Or.inl rfl) (jx := 5) rfl (pc' := 20) rfl (Nat.le_of_ble_eq_true rfl) (Nat.le_of_ble_eq_true rfl) (fun h15 e16 e17 e18 => ?_)
  have c19 := (e17 22 (by decide)).trans e9
  have fr20 : ∀ q, q ∉ ([23, 22] : List Nat) → h15[q]? = h[q]? := fun q hq => (e17 q (fun z => hq (by rw [z]; decide))).trans (fr13 q (am_sub (by decide) hq))
  have ln21 : h15.length = h.length := e18.trans ln14
  refine am_steps ok_Mo_push 2 (x' := (22, [some (.ref 22), some (.int w), some (.int 16)], [.ref 22, .ref 22], h15, 0, 0)) rfl (Nat.le_of_ble_eq_true rfl) (Nat.le_of_ble_eq_true rfl) ?_
  refine ar_get ok_Mo_push rfl c19 (v := .int 5) rfl (pc' := 25) rfl (Nat.le_of_ble_eq_true rfl) (Nat.le_of_ble_eq_true rfl) ?_
  refine am_steps ok_Mo_push 2 (x' := (27, [some (.ref 22), some (.int w), some (.int 16)], [.int 6, .ref 22], h15, 0, 0)) rfl (Nat.le_of_ble_eq_true rfl) (Nat.le_of_ble_eq_true rfl) ?_
  refine ar_put ok_Mo_push rfl c19 (Nat.le_of_ble_eq_true rfl) rfl (fs' := [.ref 23, .int 6, .ref 24, .int 0, .int 0, .int 0, .ref 25, .int 0, .int 0, .ref 26, .int 1, .ref 27, .ref 28, .ref 29, .ref 30, .int 0, .int (-1), .ref 31, .ref 32, .ref 33, .ref 34, .ref 35, .ref 36, .ref 37, .ref 38, .int 0, .ref 39, .ref 40, .ref 41, .ref 42, .int 0, .int 0, .int 0, .ref 43, .ref 44, .ref 45, .ref 46, .ref 47, .ref 48, .ref 49, .ref 50, .ref 51, .ref 52, .ref 53, .ref 54, .long 0, .ref 55, .ref 56, .int 0, .ref 57, .ref 58, .ref 59, .long 0, .int 0, .int 0, .int 0, .int 0, .int 1, .int (-1), .int 0, .int 0, .int 0]) rfl (pc' := 30) rfl (Nat.le_of_ble_eq_true rfl) (Nat.le_of_ble_eq_true rfl) (fun h22 e23 e24 e25 => ?_)
  have c26 := (e24 23 (by decide)).trans e16
  have fr27 : ∀ q, q ∉ ([23, 22] : List Nat) → h22[q]? = h[q]? := fun q hq => (e24 q (fun z => hq (by rw [z]; decide))).trans (fr20 q (am_sub (by decide) hq))
  have ln28 : h22.length = h.length := e25.trans ln21
  refine am_steps ok_Mo_push 5 (x' := (8, [some (.ref 22), some (.int w), some (.int 8)], [.ref 22], h22, 0, 0)) rfl (Nat.le_of_ble_eq_true rfl) (Nat.le_of_ble_eq_true rfl) ?_
  refine ar_get ok_Mo_push rfl e23 (v := .ref 23) rfl (pc' := 11) rfl (Nat.le_of_ble_eq_true rfl) (Nat.le_of_ble_eq_true rfl) ?_
  refine am_steps ok_Mo_push 1 (x' := (12, [some (.ref 22), some (.int w), some (.int 8)], [.ref 22, .ref 23], h22, 0, 0)) rfl (Nat.le_of_ble_eq_true rfl) (Nat.le_of_ble_eq_true rfl) ?_
  refine ar_get ok_Mo_push rfl e23 (v := .int 6) rfl (pc' := 15) rfl (Nat.le_of_ble_eq_true rfl) (Nat.le_of_ble_eq_true rfl) ?_
  refine am_steps ok_Mo_push 4 (x' := (19, [some (.ref 22), some (.int w), some (.int 8)], [.int (((w >>> (8 &&& 31))).toInt8.toInt32), .int 6, .ref 23], h22, 0, 0)) rfl (Nat.le_of_ble_eq_true rfl) (Nat.le_of_ble_eq_true rfl) ?_
  refine ar_bast ok_Mo_push rfl c26 (Or.inl rfl) (jx := 6) rfl (pc' := 20) rfl (Nat.le_of_ble_eq_true rfl) (Nat.le_of_ble_eq_true rfl) (fun h29 e30 e31 e32 => ?_)
  have c33 := (e31 22 (by decide)).trans e23
  have fr34 : ∀ q, q ∉ ([23, 22] : List Nat) → h29[q]? = h[q]? := fun q hq => (e31 q (fun z => hq (by rw [z]; decide))).trans (fr27 q (am_sub (by decide) hq))
  have ln35 : h29.length = h.length := e32.trans ln28
  refine am_steps ok_Mo_push 2 (x' := (22, [some (.ref 22), some (.int w), some (.int 8)], [.ref 22, .ref 22], h29, 0, 0)) rfl (Nat.le_of_ble_eq_true rfl) (Nat.le_of_ble_eq_true rfl) ?_
  refine ar_get ok_Mo_push rfl c33 (v := .int 6) rfl (pc' := 25) rfl (Nat.le_of_ble_eq_true rfl) (Nat.le_of_ble_eq_true rfl) ?_
  refine am_steps ok_Mo_push 2 (x' := (27, [some (.ref 22), some (.int w), some (.int 8)], [.int 7, .ref 22], h29, 0, 0)) rfl (Nat.le_of_ble_eq_true rfl) (Nat.le_of_ble_eq_true rfl) ?_
  refine ar_put ok_Mo_push rfl c33 (Nat.le_of_ble_eq_true rfl) rfl (fs' := [.ref 23, .int 7, .ref 24, .int 0, .int 0, .int 0, .ref 25, .int 0, .int 0, .ref 26, .int 1, .ref 27, .ref 28, .ref 29, .ref 30, .int 0, .int (-1), .ref 31, .ref 32, .ref 33, .ref 34, .ref 35, .ref 36, .ref 37, .ref 38, .int 0, .ref 39, .ref 40, .ref 41, .ref 42, .int 0, .int 0, .int 0, .ref 43, .ref 44, .ref 45, .ref 46, .ref 47, .ref 48, .ref 49, .ref 50, .ref 51, .ref 52, .ref 53, .ref 54, .long 0, .ref 55, .ref 56, .int 0, .ref 57, .ref 58, .ref 59, .long 0, .int 0, .int 0, .int 0, .int 0, .int 1, .int (-1), .int 0, .int 0, .int 0]) rfl (pc' := 30) rfl (Nat.le_of_ble_eq_true rfl) (Nat.le_of_ble_eq_true rfl) (fun h36 e37 e38 e39 => ?_)
  have c40 := (e38 23 (by decide)).trans e30
  have fr41 : ∀ q, q ∉ ([23, 22] : List Nat) → h36[q]? = h[q]? := fun q hq => (e38 q (fun z => hq (by rw [z]; decide))).trans (fr34 q (am_sub (by decide) hq))
  have ln42 : h36.length = h.length := e39.trans ln35
  refine am_steps ok_Mo_push 5 (x' := (8, [some (.ref 22), some (.int w), some (.int 0)], [.ref 22], h36, 0, 0)) rfl (Nat.le_of_ble_eq_true rfl) (Nat.le_of_ble_eq_true rfl) ?_
  refine ar_get ok_Mo_push rfl e37 (v := .ref 23) rfl (pc' := 11) rfl (Nat.le_of_ble_eq_true rfl) (Nat.le_of_ble_eq_true rfl) ?_
  refine am_steps ok_Mo_push 1 (x' := (12, [some (.ref 22), some (.int w), some (.int 0)], [.ref 22, .ref 23], h36, 0, 0)) rfl (Nat.le_of_ble_eq_true rfl) (Nat.le_of_ble_eq_true rfl) ?_
  refine ar_get ok_Mo_push rfl e37 (v := .int 7) rfl (pc' := 15) rfl (Nat.le_of_ble_eq_true rfl) (Nat.le_of_ble_eq_true rfl) ?_
  refine am_steps ok_Mo_push 4 (x' := (19, [some (.ref 22), some (.int w), some (.int 0)], [.int (((w >>> (0 &&& 31))).toInt8.toInt32), .int 7, .ref 23], h36, 0, 0)) rfl (Nat.le_of_ble_eq_true rfl) (Nat.le_of_ble_eq_true rfl) ?_
  refine ar_bast ok_Mo_push rfl c40 (Or.inl rfl) (jx := 7) rfl (pc' := 20) rfl (Nat.le_of_ble_eq_true rfl) (Nat.le_of_ble_eq_true rfl) (fun h43 e44 e45 e46 => ?_)
  have c47 := (e45 22 (by decide)).trans e37
  have fr48 : ∀ q, q ∉ ([23, 22] : List Nat) → h43[q]? = h[q]? := fun q hq => (e45 q (fun z => hq (by rw [z]; decide))).trans (fr41 q (am_sub (by decide) hq))
  have ln49 : h43.length = h.length := e46.trans ln42
  refine am_steps ok_Mo_push 2 (x' := (22, [some (.ref 22), some (.int w), some (.int 0)], [.ref 22, .ref 22], h43, 0, 0)) rfl (Nat.le_of_ble_eq_true rfl) (Nat.le_of_ble_eq_true rfl) ?_
  refine ar_get ok_Mo_push rfl c47 (v := .int 7) rfl (pc' := 25) rfl (Nat.le_of_ble_eq_true rfl) (Nat.le_of_ble_eq_true rfl) ?_
  refine am_steps ok_Mo_push 2 (x' := (27, [some (.ref 22), some (.int w), some (.int 0)], [.int 8, .ref 22], h43, 0, 0)) rfl (Nat.le_of_ble_eq_true rfl) (Nat.le_of_ble_eq_true rfl) ?_
  refine ar_put ok_Mo_push rfl c47 (Nat.le_of_ble_eq_true rfl) rfl (fs' := [.ref 23, .int 8, .ref 24, .int 0, .int 0, .int 0, .ref 25, .int 0, .int 0, .ref 26, .int 1, .ref 27, .ref 28, .ref 29, .ref 30, .int 0, .int (-1), .ref 31, .ref 32, .ref 33, .ref 34, .ref 35, .ref 36, .ref 37, .ref 38, .int 0, .ref 39, .ref 40, .ref 41, .ref 42, .int 0, .int 0, .int 0, .ref 43, .ref 44, .ref 45, .ref 46, .ref 47, .ref 48, .ref 49, .ref 50, .ref 51, .ref 52, .ref 53, .ref 54, .long 0, .ref 55, .ref 56, .int 0, .ref 57, .ref 58, .ref 59, .long 0, .int 0, .int 0, .int 0, .int 0, .int 1, .int (-1), .int 0, .int 0, .int 0]) rfl (pc' := 30) rfl (Nat.le_of_ble_eq_true rfl) (Nat.le_of_ble_eq_true rfl) (fun h50 e51 e52 e53 => ?_)
  have c54 := (e52 23 (by decide)).trans e44
  have fr55 : ∀ q, q ∉ ([23, 22] : List Nat) → h50[q]? = h[q]? := fun q hq => (e52 q (fun z => hq (by rw [z]; decide))).trans (fr48 q (am_sub (by decide) hq))
  have ln56 : h50.length = h.length := e53.trans ln49
  refine am_steps ok_Mo_push 4 (x' := (36, [some (.ref 22), some (.int w), some (.int (-8))], [], h50, 0, 0)) rfl (Nat.le_of_ble_eq_true rfl) (Nat.le_of_ble_eq_true rfl) ?_
  exact am_ret ok_Mo_push rfl (Nat.le_of_ble_eq_true rfl) (Nat.le_of_ble_eq_true rfl) ⟨rfl, e51, c54, fun q hq => fr55 q (am_sub (by decide) hq), ln56⟩
set_option maxHeartbeats 4000000 in
set_option maxRecDepth 100000 in
theorem m_push_8 (w : Int32) (f : Nat → Int32) (h : am_H) (c_22 : h[22]? = some (.inr (1, mo 8 0 0 0 (-1) 0 0))) (c_23 : h[23]? = some (.inl (2, 400, .inl f)))  : am_Me am_Pr none 0 0 0 0 14 [.ref 22, .int w] h (fun r h' => r = none ∧ h'[22]? = some (.inr (1, mo 12 0 0 0 (-1) 0 0)) ∧ h'[23]? = some (.inl (2, 400, .inl (upd (upd (upd (upd f 8 (am_bn 2 ((((w >>> (24 &&& 31))).toInt8.toInt32)))) 9 (am_bn 2 ((((w >>> (16 &&& 31))).toInt8.toInt32)))) 10 (am_bn 2 ((((w >>> (8 &&& 31))).toInt8.toInt32)))) 11 (am_bn 2 ((((w >>> (0 &&& 31))).toInt8.toInt32)))))) ∧ (∀ q, q ∉ ([22, 23] : List Nat) → h'[q]? = h[q]?) ∧ h'.length = h.length) := by
  refine am_enter (d := hd_Mo_push) rfl (by decide +kernel) (Nat.le_of_ble_eq_true rfl) ?_
  show am_S _ _ _ _ _ _ _ (0, [some (.ref 22), some (.int w), none], [], h, 0, 0) _
  refine am_steps ok_Mo_push 5 (x' := (8, [some (.ref 22), some (.int w), some (.int 24)], [.ref 22], h, 0, 0)) rfl (Nat.le_of_ble_eq_true rfl) (Nat.le_of_ble_eq_true rfl) ?_
  refine ar_get ok_Mo_push rfl c_22 (v := .ref 23) rfl (pc' := 11) rfl (Nat.le_of_ble_eq_true rfl) (Nat.le_of_ble_eq_true rfl) ?_
  refine am_steps ok_Mo_push 1 (x' := (12, [some (.ref 22), some (.int w), some (.int 24)], [.ref 22, .ref 23], h, 0, 0)) rfl (Nat.le_of_ble_eq_true rfl) (Nat.le_of_ble_eq_true rfl) ?_
  refine ar_get ok_Mo_push rfl c_22 (v := .int 8) rfl (pc' := 15) rfl (Nat.le_of_ble_eq_true rfl) (Nat.le_of_ble_eq_true rfl) ?_
  refine am_steps ok_Mo_push 4 (x' := (19, [some (.ref 22), some (.int w), some (.int 24)], [.int (((w >>> (24 &&& 31))).toInt8.toInt32), .int 8, .ref 23], h, 0, 0)) rfl (Nat.le_of_ble_eq_true rfl) (Nat.le_of_ble_eq_true rfl) ?_
  refine ar_bast ok_Mo_push rfl c_23 (Or.inl rfl) (jx := 8) rfl (pc' := 20) rfl (Nat.le_of_ble_eq_true rfl) (Nat.le_of_ble_eq_true rfl) (fun h1 e2 e3 e4 => ?_)
  have c5 := (e3 22 (by decide)).trans c_22
  have fr6 : ∀ q, q ∉ ([23] : List Nat) → h1[q]? = h[q]? := fun q hq => e3 q (fun z => hq (by rw [z]; decide))
  have ln7 : h1.length = h.length := e4
  refine am_steps ok_Mo_push 2 (x' := (22, [some (.ref 22), some (.int w), some (.int 24)], [.ref 22, .ref 22], h1, 0, 0)) rfl (Nat.le_of_ble_eq_true rfl) (Nat.le_of_ble_eq_true rfl) ?_
  refine ar_get ok_Mo_push rfl c5 (v := .int 8) rfl (pc' := 25) rfl (Nat.le_of_ble_eq_true rfl) (Nat.le_of_ble_eq_true rfl) ?_
  refine am_steps ok_Mo_push 2 (x' := (27, [some (.ref 22), some (.int w), some (.int 24)], [.int 9, .ref 22], h1, 0, 0)) rfl (Nat.le_of_ble_eq_true rfl) (Nat.le_of_ble_eq_true rfl) ?_
  refine ar_put ok_Mo_push rfl c5 (Nat.le_of_ble_eq_true rfl) rfl (fs' := [.ref 23, .int 9, .ref 24, .int 0, .int 0, .int 0, .ref 25, .int 0, .int 0, .ref 26, .int 1, .ref 27, .ref 28, .ref 29, .ref 30, .int 0, .int (-1), .ref 31, .ref 32, .ref 33, .ref 34, .ref 35, .ref 36, .ref 37, .ref 38, .int 0, .ref 39, .ref 40, .ref 41, .ref 42, .int 0, .int 0, .int 0, .ref 43, .ref 44, .ref 45, .ref 46, .ref 47, .ref 48, .ref 49, .ref 50, .ref 51, .ref 52, .ref 53, .ref 54, .long 0, .ref 55, .ref 56, .int 0, .ref 57, .ref 58, .ref 59, .long 0, .int 0, .int 0, .int 0, .int 0, .int 1, .int (-1), .int 0, .int 0, .int 0]) rfl (pc' := 30) rfl (Nat.le_of_ble_eq_true rfl) (Nat.le_of_ble_eq_true rfl) (fun h8 e9 e10 e11 => ?_)
  have c12 := (e10 23 (by decide)).trans e2
  have fr13 : ∀ q, q ∉ ([23, 22] : List Nat) → h8[q]? = h[q]? := fun q hq => (e10 q (fun z => hq (by rw [z]; decide))).trans (fr6 q (am_sub (by decide) hq))
  have ln14 : h8.length = h.length := e11.trans ln7
  refine am_steps ok_Mo_push 5 (x' := (8, [some (.ref 22), some (.int w), some (.int 16)], [.ref 22], h8, 0, 0)) rfl (Nat.le_of_ble_eq_true rfl) (Nat.le_of_ble_eq_true rfl) ?_
  refine ar_get ok_Mo_push rfl e9 (v := .ref 23) rfl (pc' := 11) rfl (Nat.le_of_ble_eq_true rfl) (Nat.le_of_ble_eq_true rfl) ?_
  refine am_steps ok_Mo_push 1 (x' := (12, [some (.ref 22), some (.int w), some (.int 16)], [.ref 22, .ref 23], h8, 0, 0)) rfl (Nat.le_of_ble_eq_true rfl) (Nat.le_of_ble_eq_true rfl) ?_
  refine ar_get ok_Mo_push rfl e9 (v := .int 9) rfl (pc' := 15) rfl (Nat.le_of_ble_eq_true rfl) (Nat.le_of_ble_eq_true rfl) ?_
  refine am_steps ok_Mo_push 4 (x' := (19, [some (.ref 22), some (.int w), some (.int 16)], [.int (((w >>> (16 &&& 31))).toInt8.toInt32), .int 9, .ref 23], h8, 0, 0)) rfl (Nat.le_of_ble_eq_true rfl) (Nat.le_of_ble_eq_true rfl) ?_
  refine ar_bast ok_Mo_push rfl c12 (Or.inl rfl) (jx := 9) rfl (pc' := 20) rfl (Nat.le_of_ble_eq_true rfl) (Nat.le_of_ble_eq_true rfl) (fun h15 e16 e17 e18 => ?_)
  have c19 := (e17 22 (by decide)).trans e9
  have fr20 : ∀ q, q ∉ ([23, 22] : List Nat) → h15[q]? = h[q]? := fun q hq => (e17 q (fun z => hq (by rw [z]; decide))).trans (fr13 q (am_sub (by decide) hq))
  have ln21 : h15.length = h.length := e18.trans ln14
  refine am_steps ok_Mo_push 2 (x' := (22, [some (.ref 22), some (.int w), some (.int 16)], [.ref 22, .ref 22], h15, 0, 0)) rfl (Nat.le_of_ble_eq_true rfl) (Nat.le_of_ble_eq_true rfl) ?_
  refine ar_get ok_Mo_push rfl c19 (v := .int 9) rfl (pc' := 25) rfl (Nat.le_of_ble_eq_true rfl) (Nat.le_of_ble_eq_true rfl) ?_
  refine am_steps ok_Mo_push 2 (x' := (27, [some (.ref 22), some (.int w), some (.int 16)], [.int 10, .ref 22], h15, 0, 0)) rfl (Nat.le_of_ble_eq_true rfl) (Nat.le_of_ble_eq_true rfl) ?_
  refine ar_put ok_Mo_push rfl c19 (Nat.le_of_ble_eq_true rfl) rfl (fs' := [.ref 23, .int 10, .ref 24, .int 0, .int 0, .int 0, .ref 25, .int 0, .int 0, .ref 26, .int 1, .ref 27, .ref 28, .ref 29, .ref 30, .int 0, .int (-1), .ref 31, .ref 32, .ref 33, .ref 34, .ref 35, .ref 36, .ref 37, .ref 38, .int 0, .ref 39, .ref 40, .ref 41, .ref 42, .int 0, .int 0, .int 0, .ref 43, .ref 44, .ref 45, .ref 46, .ref 47, .ref 48, .ref 49, .ref 50, .ref 51, .ref 52, .ref 53, .ref 54, .long 0, .ref 55, .ref 56, .int 0, .ref 57, .ref 58, .ref 59, .long 0, .int 0, .int 0, .int 0, .int 0, .int 1, .int (-1), .int 0, .int 0, .int 0]) rfl (pc' := 30) rfl (Nat.le_of_ble_eq_true rfl) (Nat.le_of_ble_eq_true rfl) (fun h22 e23 e24 e25 => ?_)
  have c26 := (e24 23 (by decide)).trans e16
  have fr27 : ∀ q, q ∉ ([23, 22] : List Nat) → h22[q]? = h[q]? := fun q hq => (e24 q (fun z => hq (by rw [z]; decide))).trans (fr20 q (am_sub (by decide) hq))
  have ln28 : h22.length = h.length := e25.trans ln21
  refine am_steps ok_Mo_push 5 (x' := (8, [some (.ref 22), some (.int w), some (.int 8)], [.ref 22], h22, 0, 0)) rfl (Nat.le_of_ble_eq_true rfl) (Nat.le_of_ble_eq_true rfl) ?_
  refine ar_get ok_Mo_push rfl e23 (v := .ref 23) rfl (pc' := 11) rfl (Nat.le_of_ble_eq_true rfl) (Nat.le_of_ble_eq_true rfl) ?_
  refine am_steps ok_Mo_push 1 (x' := (12, [some (.ref 22), some (.int w), some (.int 8)], [.ref 22, .ref 23], h22, 0, 0)) rfl (Nat.le_of_ble_eq_true rfl) (Nat.le_of_ble_eq_true rfl) ?_
  refine ar_get ok_Mo_push rfl e23 (v := .int 10) rfl (pc' := 15) rfl (Nat.le_of_ble_eq_true rfl) (Nat.le_of_ble_eq_true rfl) ?_
  refine am_steps ok_Mo_push 4 (x' := (19, [some (.ref 22), some (.int w), some (.int 8)], [.int (((w >>> (8 &&& 31))).toInt8.toInt32), .int 10, .ref 23], h22, 0, 0)) rfl (Nat.le_of_ble_eq_true rfl) (Nat.le_of_ble_eq_true rfl) ?_
  refine ar_bast ok_Mo_push rfl c26 (Or.inl rfl) (jx := 10) rfl (pc' := 20) rfl (Nat.le_of_ble_eq_true rfl) (Nat.le_of_ble_eq_true rfl) (fun h29 e30 e31 e32 => ?_)
  have c33 := (e31 22 (by decide)).trans e23
  have fr34 : ∀ q, q ∉ ([23, 22] : List Nat) → h29[q]? = h[q]? := fun q hq => (e31 q (fun z => hq (by rw [z]; decide))).trans (fr27 q (am_sub (by decide) hq))
  have ln35 : h29.length = h.length := e32.trans ln28
  refine am_steps ok_Mo_push 2 (x' := (22, [some (.ref 22), some (.int w), some (.int 8)], [.ref 22, .ref 22], h29, 0, 0)) rfl (Nat.le_of_ble_eq_true rfl) (Nat.le_of_ble_eq_true rfl) ?_
  refine ar_get ok_Mo_push rfl c33 (v := .int 10) rfl (pc' := 25) rfl (Nat.le_of_ble_eq_true rfl) (Nat.le_of_ble_eq_true rfl) ?_
  refine am_steps ok_Mo_push 2 (x' := (27, [some (.ref 22), some (.int w), some (.int 8)], [.int 11, .ref 22], h29, 0, 0)) rfl (Nat.le_of_ble_eq_true rfl) (Nat.le_of_ble_eq_true rfl) ?_
  refine ar_put ok_Mo_push rfl c33 (Nat.le_of_ble_eq_true rfl) rfl (fs' := [.ref 23, .int 11, .ref 24, .int 0, .int 0, .int 0, .ref 25, .int 0, .int 0, .ref 26, .int 1, .ref 27, .ref 28, .ref 29, .ref 30, .int 0, .int (-1), .ref 31, .ref 32, .ref 33, .ref 34, .ref 35, .ref 36, .ref 37, .ref 38, .int 0, .ref 39, .ref 40, .ref 41, .ref 42, .int 0, .int 0, .int 0, .ref 43, .ref 44, .ref 45, .ref 46, .ref 47, .ref 48, .ref 49, .ref 50, .ref 51, .ref 52, .ref 53, .ref 54, .long 0, .ref 55, .ref 56, .int 0, .ref 57, .ref 58, .ref 59, .long 0, .int 0, .int 0, .int 0, .int 0, .int 1, .int (-1), .int 0, .int 0, .int 0]) rfl (pc' := 30) rfl (Nat.le_of_ble_eq_true rfl) (Nat.le_of_ble_eq_true rfl) (fun h36 e37 e38 e39 => ?_)
  have c40 := (e38 23 (by decide)).trans e30
  have fr41 : ∀ q, q ∉ ([23, 22] : List Nat) → h36[q]? = h[q]? := fun q hq => (e38 q (fun z => hq (by rw [z]; decide))).trans (fr34 q (am_sub (by decide) hq))
  have ln42 : h36.length = h.length := e39.trans ln35
  refine am_steps ok_Mo_push 5 (x' := (8, [some (.ref 22), some (.int w), some (.int 0)], [.ref 22], h36, 0, 0)) rfl (Nat.le_of_ble_eq_true rfl) (Nat.le_of_ble_eq_true rfl) ?_
  refine ar_get ok_Mo_push rfl e37 (v := .ref 23) rfl (pc' := 11) rfl (Nat.le_of_ble_eq_true rfl) (Nat.le_of_ble_eq_true rfl) ?_
  refine am_steps ok_Mo_push 1 (x' := (12, [some (.ref 22), some (.int w), some (.int 0)], [.ref 22, .ref 23], h36, 0, 0)) rfl (Nat.le_of_ble_eq_true rfl) (Nat.le_of_ble_eq_true rfl) ?_
  refine ar_get ok_Mo_push rfl e37 (v := .int 11) rfl (pc' := 15) rfl (Nat.le_of_ble_eq_true rfl) (Nat.le_of_ble_eq_true rfl) ?_
  refine am_steps ok_Mo_push 4 (x' := (19, [some (.ref 22), some (.int w), some (.int 0)], [.int (((w >>> (0 &&& 31))).toInt8.toInt32), .int 11, .ref 23], h36, 0, 0)) rfl (Nat.le_of_ble_eq_true rfl) (Nat.le_of_ble_eq_true rfl) ?_
  refine ar_bast ok_Mo_push rfl c40 (Or.inl rfl) (jx := 11) rfl (pc' := 20) rfl (Nat.le_of_ble_eq_true rfl) (Nat.le_of_ble_eq_true rfl) (fun h43 e44 e45 e46 => ?_)
  have c47 := (e45 22 (by decide)).trans e37
  have fr48 : ∀ q, q ∉ ([23, 22] : List Nat) → h43[q]? = h[q]? := fun q hq => (e45 q (fun z => hq (by rw [z]; decide))).trans (fr41 q (am_sub (by decide) hq))
  have ln49 : h43.length = h.length := e46.trans ln42
  refine am_steps ok_Mo_push 2 (x' := (22, [some (.ref 22), some (.int w), some (.int 0)], [.ref 22, .ref 22], h43, 0, 0)) rfl (Nat.le_of_ble_eq_true rfl) (Nat.le_of_ble_eq_true rfl) ?_
  refine ar_get ok_Mo_push rfl c47 (v := .int 11) rfl (pc' := 25) rfl (Nat.le_of_ble_eq_true rfl) (Nat.le_of_ble_eq_true rfl) ?_
  refine am_steps ok_Mo_push 2 (x' := (27, [some (.ref 22), some (.int w), some (.int 0)], [.int 12, .ref 22], h43, 0, 0)) rfl (Nat.le_of_ble_eq_true rfl) (Nat.le_of_ble_eq_true rfl) ?_
  refine ar_put ok_Mo_push rfl c47 (Nat.le_of_ble_eq_true rfl) rfl (fs' := [.ref 23, .int 12, .ref 24, .int 0, .int 0, .int 0, .ref 25, .int 0, .int 0, .ref 26, .int 1, .ref 27, .ref 28, .ref 29, .ref 30, .int 0, .int (-1), .ref 31, .ref 32, .ref 33, .ref 34, .ref 35, .ref 36, .ref 37, .ref 38, .int 0, .ref 39, .ref 40, .ref 41, .ref 42, .int 0, .int 0, .int 0, .ref 43, .ref 44, .ref 45, .ref 46, .ref 47, .ref 48, .ref 49, .ref 50, .ref 51, .ref 52, .ref 53, .ref 54, .long 0, .ref 55, .ref 56, .int 0, .ref 57, .ref 58, .ref 59, .long 0, .int 0, .int 0, .int 0, .int 0, .int 1, .int (-1), .int 0, .int 0, .int 0]) rfl (pc' := 30) rfl (Nat.le_of_ble_eq_true rfl) (Nat.le_of_ble_eq_true rfl) (fun h50 e51 e52 e53 => ?_)
  have c54 := (e52 23 (by decide)).trans e44
  have fr55 : ∀ q, q ∉ ([23, 22] : List Nat) → h50[q]? = h[q]? := fun q hq => (e52 q (fun z => hq (by rw [z]; decide))).trans (fr48 q (am_sub (by decide) hq))
  have ln56 : h50.length = h.length := e53.trans ln49
  refine am_steps ok_Mo_push 4 (x' := (36, [some (.ref 22), some (.int w), some (.int (-8))], [], h50, 0, 0)) rfl (Nat.le_of_ble_eq_true rfl) (Nat.le_of_ble_eq_true rfl) ?_
  exact am_ret ok_Mo_push rfl (Nat.le_of_ble_eq_true rfl) (Nat.le_of_ble_eq_true rfl) ⟨rfl, e51, c54, fun q hq => fr55 q (am_sub (by decide) hq), ln56⟩
set_option maxHeartbeats 4000000 in
set_option maxRecDepth 100000 in
theorem m_push_12 (w : Int32) (f : Nat → Int32) (h : am_H) (c_22 : h[22]? = some (.inr (1, mo 12 0 0 0 (-1) 0 0))) (c_23 : h[23]? = some (.inl (2, 400, .inl f)))  : am_Me am_Pr none 0 0 0 0 14 [.ref 22, .int w] h (fun r h' => r = none ∧ h'[22]? = some (.inr (1, mo 16 0 0 0 (-1) 0 0)) ∧ h'[23]? = some (.inl (2, 400, .inl (upd (upd (upd (upd f 12 (am_bn 2 ((((w >>> (24 &&& 31))).toInt8.toInt32)))) 13 (am_bn 2 ((((w >>> (16 &&& 31))).toInt8.toInt32)))) 14 (am_bn 2 ((((w >>> (8 &&& 31))).toInt8.toInt32)))) 15 (am_bn 2 ((((w >>> (0 &&& 31))).toInt8.toInt32)))))) ∧ (∀ q, q ∉ ([22, 23] : List Nat) → h'[q]? = h[q]?) ∧ h'.length = h.length) := by
  refine am_enter (d := hd_Mo_push) rfl (by decide +kernel) (Nat.le_of_ble_eq_true rfl) ?_
  show am_S _ _ _ _ _ _ _ (0, [some (.ref 22), some (.int w), none], [], h, 0, 0) _
  refine am_steps ok_Mo_push 5 (x' := (8, [some (.ref 22), some (.int w), some (.int 24)], [.ref 22], h, 0, 0)) rfl (Nat.le_of_ble_eq_true rfl) (Nat.le_of_ble_eq_true rfl) ?_
  refine ar_get ok_Mo_push rfl c_22 (v := .ref 23) rfl (pc' := 11) rfl (Nat.le_of_ble_eq_true rfl) (Nat.le_of_ble_eq_true rfl) ?_
  refine am_steps ok_Mo_push 1 (x' := (12, [some (.ref 22), some (.int w), some (.int 24)], [.ref 22, .ref 23], h, 0, 0)) rfl (Nat.le_of_ble_eq_true rfl) (Nat.le_of_ble_eq_true rfl) ?_
  refine ar_get ok_Mo_push rfl c_22 (v := .int 12) rfl (pc' := 15) rfl (Nat.le_of_ble_eq_true rfl) (Nat.le_of_ble_eq_true rfl) ?_
  refine am_steps ok_Mo_push 4 (x' := (19, [some (.ref 22), some (.int w), some (.int 24)], [.int (((w >>> (24 &&& 31))).toInt8.toInt32), .int 12, .ref 23], h, 0, 0)) rfl (Nat.le_of_ble_eq_true rfl) (Nat.le_of_ble_eq_true rfl) ?_
  refine ar_bast ok_Mo_push rfl c_23 (Or.inl rfl) (jx := 12) rfl (pc' := 20) rfl (Nat.le_of_ble_eq_true rfl) (Nat.le_of_ble_eq_true rfl) (fun h1 e2 e3 e4 => ?_)
  have c5 := (e3 22 (by decide)).trans c_22
  have fr6 : ∀ q, q ∉ ([23] : List Nat) → h1[q]? = h[q]? := fun q hq => e3 q (fun z => hq (by rw [z]; decide))
  have ln7 : h1.length = h.length := e4
  refine am_steps ok_Mo_push 2 (x' := (22, [some (.ref 22), some (.int w), some (.int 24)], [.ref 22, .ref 22], h1, 0, 0)) rfl (Nat.le_of_ble_eq_true rfl) (Nat.le_of_ble_eq_true rfl) ?_
  refine ar_get ok_Mo_push rfl c5 (v := .int 12) rfl (pc' := 25) rfl (Nat.le_of_ble_eq_true rfl) (Nat.le_of_ble_eq_true rfl) ?_
  refine am_steps ok_Mo_push 2 (x' := (27, [some (.ref 22), some (.int w), some (.int 24)], [.int 13, .ref 22], h1, 0, 0)) rfl (Nat.le_of_ble_eq_true rfl) (Nat.le_of_ble_eq_true rfl) ?_
  refine ar_put ok_Mo_push rfl c5 (Nat.le_of_ble_eq_true rfl) rfl (fs' := [.ref 23, .int 13, .ref 24, .int 0, .int 0, .int 0, .ref 25, .int 0, .int 0, .ref 26, .int 1, .ref 27, .ref 28, .ref 29, .ref 30, .int 0, .int (-1), .ref 31, .ref 32, .ref 33, .ref 34, .ref 35, .ref 36, .ref 37, .ref 38, .int 0, .ref 39, .ref 40, .ref 41, .ref 42, .int 0, .int 0, .int 0, .ref 43, .ref 44, .ref 45, .ref 46, .ref 47, .ref 48, .ref 49, .ref 50, .ref 51, .ref 52, .ref 53, .ref 54, .long 0, .ref 55, .ref 56, .int 0, .ref 57, .ref 58, .ref 59, .long 0, .int 0, .int 0, .int 0, .int 0, .int 1, .int (-1), .int 0, .int 0, .int 0]) rfl (pc' := 30) rfl (Nat.le_of_ble_eq_true rfl) (Nat.le_of_ble_eq_true rfl) (fun h8 e9 e10 e11 => ?_)
  have c12 := (e10 23 (by decide)).trans e2
  have fr13 : ∀ q, q ∉ ([23, 22] : List Nat) → h8[q]? = h[q]? := fun q hq => (e10 q (fun z => hq (by rw [z]; decide))).trans (fr6 q (am_sub (by decide) hq))
  have ln14 : h8.length = h.length := e11.trans ln7
  refine am_steps ok_Mo_push 5 (x' := (8, [some (.ref 22), some (.int w), some (.int 16)], [.ref 22], h8, 0, 0)) rfl (Nat.le_of_ble_eq_true rfl) (Nat.le_of_ble_eq_true rfl) ?_
  refine ar_get ok_Mo_push rfl e9 (v := .ref 23) rfl (pc' := 11) rfl (Nat.le_of_ble_eq_true rfl) (Nat.le_of_ble_eq_true rfl) ?_
  refine am_steps ok_Mo_push 1 (x' := (12, [some (.ref 22), some (.int w), some (.int 16)], [.ref 22, .ref 23], h8, 0, 0)) rfl (Nat.le_of_ble_eq_true rfl) (Nat.le_of_ble_eq_true rfl) ?_
  refine ar_get ok_Mo_push rfl e9 (v := .int 13) rfl (pc' := 15) rfl (Nat.le_of_ble_eq_true rfl) (Nat.le_of_ble_eq_true rfl) ?_
  refine am_steps ok_Mo_push 4 (x' := (19, [some (.ref 22), some (.int w), some (.int 16)], [.int (((w >>> (16 &&& 31))).toInt8.toInt32), .int 13, .ref 23], h8, 0, 0)) rfl (Nat.le_of_ble_eq_true rfl) (Nat.le_of_ble_eq_true rfl) ?_
  refine ar_bast ok_Mo_push rfl c12 (Or.inl rfl) (jx := 13) rfl (pc' := 20) rfl (Nat.le_of_ble_eq_true rfl) (Nat.le_of_ble_eq_true rfl) (fun h15 e16 e17 e18 => ?_)
  have c19 := (e17 22 (by decide)).trans e9
  have fr20 : ∀ q, q ∉ ([23, 22] : List Nat) → h15[q]? = h[q]? := fun q hq => (e17 q (fun z => hq (by rw [z]; decide))).trans (fr13 q (am_sub (by decide) hq))
  have ln21 : h15.length = h.length := e18.trans ln14
  refine am_steps ok_Mo_push 2 (x' := (22, [some (.ref 22), some (.int w), some (.int 16)], [.ref 22, .ref 22], h15, 0, 0)) rfl (Nat.le_of_ble_eq_true rfl) (Nat.le_of_ble_eq_true rfl) ?_
  refine ar_get ok_Mo_push rfl c19 (v := .int 13) rfl (pc' := 25) rfl (Nat.le_of_ble_eq_true rfl) (Nat.le_of_ble_eq_true rfl) ?_
  refine am_steps ok_Mo_push 2 (x' := (27, [some (.ref 22), some (.int w), some (.int 16)], [.int 14, .ref 22], h15, 0, 0)) rfl (Nat.le_of_ble_eq_true rfl) (Nat.le_of_ble_eq_true rfl) ?_
  refine ar_put ok_Mo_push rfl c19 (Nat.le_of_ble_eq_true rfl) rfl (fs' := [.ref 23, .int 14, .ref 24, .int 0, .int 0, .int 0, .ref 25, .int 0, .int 0, .ref 26, .int 1, .ref 27, .ref 28, .ref 29, .ref 30, .int 0, .int (-1), .ref 31, .ref 32, .ref 33, .ref 34, .ref 35, .ref 36, .ref 37, .ref 38, .int 0, .ref 39, .ref 40, .ref 41, .ref 42, .int 0, .int 0, .int 0, .ref 43, .ref 44, .ref 45, .ref 46, .ref 47, .ref 48, .ref 49, .ref 50, .ref 51, .ref 52, .ref 53, .ref 54, .long 0, .ref 55, .ref 56, .int 0, .ref 57, .ref 58, .ref 59, .long 0, .int 0, .int 0, .int 0, .int 0, .int 1, .int (-1), .int 0, .int 0, .int 0]) rfl (pc' := 30) rfl (Nat.le_of_ble_eq_true rfl) (Nat.le_of_ble_eq_true rfl) (fun h22 e23 e24 e25 => ?_)
  have c26 := (e24 23 (by decide)).trans e16
  have fr27 : ∀ q, q ∉ ([23, 22] : List Nat) → h22[q]? = h[q]? := fun q hq => (e24 q (fun z => hq (by rw [z]; decide))).trans (fr20 q (am_sub (by decide) hq))
  have ln28 : h22.length = h.length := e25.trans ln21
  refine am_steps ok_Mo_push 5 (x' := (8, [some (.ref 22), some (.int w), some (.int 8)], [.ref 22], h22, 0, 0)) rfl (Nat.le_of_ble_eq_true rfl) (Nat.le_of_ble_eq_true rfl) ?_
  refine ar_get ok_Mo_push rfl e23 (v := .ref 23) rfl (pc' := 11) rfl (Nat.le_of_ble_eq_true rfl) (Nat.le_of_ble_eq_true rfl) ?_
  refine am_steps ok_Mo_push 1 (x' := (12, [some (.ref 22), some (.int w), some (.int 8)], [.ref 22, .ref 23], h22, 0, 0)) rfl (Nat.le_of_ble_eq_true rfl) (Nat.le_of_ble_eq_true rfl) ?_
  refine ar_get ok_Mo_push rfl e23 (v := .int 14) rfl (pc' := 15) rfl (Nat.le_of_ble_eq_true rfl) (Nat.le_of_ble_eq_true rfl) ?_
  refine am_steps ok_Mo_push 4 (x' := (19, [some (.ref 22), some (.int w), some (.int 8)], [.int (((w >>> (8 &&& 31))).toInt8.toInt32), .int 14, .ref 23], h22, 0, 0)) rfl (Nat.le_of_ble_eq_true rfl) (Nat.le_of_ble_eq_true rfl) ?_
  refine ar_bast ok_Mo_push rfl c26 (Or.inl rfl) (jx := 14) rfl (pc' := 20) rfl (Nat.le_of_ble_eq_true rfl) (Nat.le_of_ble_eq_true rfl) (fun h29 e30 e31 e32 => ?_)
  have c33 := (e31 22 (by decide)).trans e23
  have fr34 : ∀ q, q ∉ ([23, 22] : List Nat) → h29[q]? = h[q]? := fun q hq => (e31 q (fun z => hq (by rw [z]; decide))).trans (fr27 q (am_sub (by decide) hq))
  have ln35 : h29.length = h.length := e32.trans ln28
  refine am_steps ok_Mo_push 2 (x' := (22, [some (.ref 22), some (.int w), some (.int 8)], [.ref 22, .ref 22], h29, 0, 0)) rfl (Nat.le_of_ble_eq_true rfl) (Nat.le_of_ble_eq_true rfl) ?_
  refine ar_get ok_Mo_push rfl c33 (v := .int 14) rfl (pc' := 25) rfl (Nat.le_of_ble_eq_true rfl) (Nat.le_of_ble_eq_true rfl) ?_
  refine am_steps ok_Mo_push 2 (x' := (27, [some (.ref 22), some (.int w), some (.int 8)], [.int 15, .ref 22], h29, 0, 0)) rfl (Nat.le_of_ble_eq_true rfl) (Nat.le_of_ble_eq_true rfl) ?_
  refine ar_put ok_Mo_push rfl c33 (Nat.le_of_ble_eq_true rfl) rfl (fs' := [.ref 23, .int 15, .ref 24, .int 0, .int 0, .int 0, .ref 25, .int 0, .int 0, .ref 26, .int 1, .ref 27, .ref 28, .ref 29, .ref 30, .int 0, .int (-1), .ref 31, .ref 32, .ref 33, .ref 34, .ref 35, .ref 36, .ref 37, .ref 38, .int 0, .ref 39, .ref 40, .ref 41, .ref 42, .int 0, .int 0, .int 0, .ref 43, .ref 44, .ref 45, .ref 46, .ref 47, .ref 48, .ref 49, .ref 50, .ref 51, .ref 52, .ref 53, .ref 54, .long 0, .ref 55, .ref 56, .int 0, .ref 57, .ref 58, .ref 59, .long 0, .int 0, .int 0, .int 0, .int 0, .int 1, .int (-1), .int 0, .int 0, .int 0]) rfl (pc' := 30) rfl (Nat.le_of_ble_eq_true rfl) (Nat.le_of_ble_eq_true rfl) (fun h36 e37 e38 e39 => ?_)
  have c40 := (e38 23 (by decide)).trans e30
  have fr41 : ∀ q, q ∉ ([23, 22] : List Nat) → h36[q]? = h[q]? := fun q hq => (e38 q (fun z => hq (by rw [z]; decide))).trans (fr34 q (am_sub (by decide) hq))
  have ln42 : h36.length = h.length := e39.trans ln35
  refine am_steps ok_Mo_push 5 (x' := (8, [some (.ref 22), some (.int w), some (.int 0)], [.ref 22], h36, 0, 0)) rfl (Nat.le_of_ble_eq_true rfl) (Nat.le_of_ble_eq_true rfl) ?_
  refine ar_get ok_Mo_push rfl e37 (v := .ref 23) rfl (pc' := 11) rfl (Nat.le_of_ble_eq_true rfl) (Nat.le_of_ble_eq_true rfl) ?_
  refine am_steps ok_Mo_push 1 (x' := (12, [some (.ref 22), some (.int w), some (.int 0)], [.ref 22, .ref 23], h36, 0, 0)) rfl (Nat.le_of_ble_eq_true rfl) (Nat.le_of_ble_eq_true rfl) ?_
  refine ar_get ok_Mo_push rfl e37 (v := .int 15) rfl (pc' := 15) rfl (Nat.le_of_ble_eq_true rfl) (Nat.le_of_ble_eq_true rfl) ?_
  refine am_steps ok_Mo_push 4 (x' := (19, [some (.ref 22), some (.int w), some (.int 0)], [.int (((w >>> (0 &&& 31))).toInt8.toInt32), .int 15, .ref 23], h36, 0, 0)) rfl (Nat.le_of_ble_eq_true rfl) (Nat.le_of_ble_eq_true rfl) ?_
  refine ar_bast ok_Mo_push rfl c40 (Or.inl rfl) (jx := 15) rfl (pc' := 20) rfl (Nat.le_of_ble_eq_true rfl) (Nat.le_of_ble_eq_true rfl) (fun h43 e44 e45 e46 => ?_)
  have c47 := (e45 22 (by decide)).trans e37
  have fr48 : ∀ q, q ∉ ([23, 22] : List Nat) → h43[q]? = h[q]? := fun q hq => (e45 q (fun z => hq (by rw [z]; decide))).trans (fr41 q (am_sub (by decide) hq))
  have ln49 : h43.length = h.length := e46.trans ln42
  refine am_steps ok_Mo_push 2 (x' := (22, [some (.ref 22), some (.int w), some (.int 0)], [.ref 22, .ref 22], h43, 0, 0)) rfl (Nat.le_of_ble_eq_true rfl) (Nat.le_of_ble_eq_true rfl) ?_
  refine ar_get ok_Mo_push rfl c47 (v := .int 15) rfl (pc' := 25) rfl (Nat.le_of_ble_eq_true rfl) (Nat.le_of_ble_eq_true rfl) ?_
  refine am_steps ok_Mo_push 2 (x' := (27, [some (.ref 22), some (.int w), some (.int 0)], [.int 16, .ref 22], h43, 0, 0)) rfl (Nat.le_of_ble_eq_true rfl) (Nat.le_of_ble_eq_true rfl) ?_
  refine ar_put ok_Mo_push rfl c47 (Nat.le_of_ble_eq_true rfl) rfl (fs' := [.ref 23, .int 16, .ref 24, .int 0, .int 0, .int 0, .ref 25, .int 0, .int 0, .ref 26, .int 1, .ref 27, .ref 28, .ref 29, .ref 30, .int 0, .int (-1), .ref 31, .ref 32, .ref 33, .ref 34, .ref 35, .ref 36, .ref 37, .ref 38, .int 0, .ref 39, .ref 40, .ref 41, .ref 42, .int 0, .int 0, .int 0, .ref 43, .ref 44, .ref 45, .ref 46, .ref 47, .ref 48, .ref 49, .ref 50, .ref 51, .ref 52, .ref 53, .ref 54, .long 0, .ref 55, .ref 56, .int 0, .ref 57, .ref 58, .ref 59, .long 0, .int 0, .int 0, .int 0, .int 0, .int 1, .int (-1), .int 0, .int 0, .int 0]) rfl (pc' := 30) rfl (Nat.le_of_ble_eq_true rfl) (Nat.le_of_ble_eq_true rfl) (fun h50 e51 e52 e53 => ?_)
  have c54 := (e52 23 (by decide)).trans e44
  have fr55 : ∀ q, q ∉ ([23, 22] : List Nat) → h50[q]? = h[q]? := fun q hq => (e52 q (fun z => hq (by rw [z]; decide))).trans (fr48 q (am_sub (by decide) hq))
  have ln56 : h50.length = h.length := e53.trans ln49
  refine am_steps ok_Mo_push 4 (x' := (36, [some (.ref 22), some (.int w), some (.int (-8))], [], h50, 0, 0)) rfl (Nat.le_of_ble_eq_true rfl) (Nat.le_of_ble_eq_true rfl) ?_
  exact am_ret ok_Mo_push rfl (Nat.le_of_ble_eq_true rfl) (Nat.le_of_ble_eq_true rfl) ⟨rfl, e51, c54, fun q hq => fr55 q (am_sub (by decide) hq), ln56⟩
set_option maxHeartbeats 4000000 in
set_option maxRecDepth 100000 in
theorem m_push_16 (w : Int32) (f : Nat → Int32) (h : am_H) (c_22 : h[22]? = some (.inr (1, mo 16 0 0 0 (-1) 0 0))) (c_23 : h[23]? = some (.inl (2, 400, .inl f)))  : am_Me am_Pr none 0 0 0 0 14 [.ref 22, .int w] h (fun r h' => r = none ∧ h'[22]? = some (.inr (1, mo 20 0 0 0 (-1) 0 0)) ∧ h'[23]? = some (.inl (2, 400, .inl (upd (upd (upd (upd f 16 (am_bn 2 ((((w >>> (24 &&& 31))).toInt8.toInt32)))) 17 (am_bn 2 ((((w >>> (16 &&& 31))).toInt8.toInt32)))) 18 (am_bn 2 ((((w >>> (8 &&& 31))).toInt8.toInt32)))) 19 (am_bn 2 ((((w >>> (0 &&& 31))).toInt8.toInt32)))))) ∧ (∀ q, q ∉ ([22, 23] : List Nat) → h'[q]? = h[q]?) ∧ h'.length = h.length) := by
  refine am_enter (d := hd_Mo_push) rfl (by decide +kernel) (Nat.le_of_ble_eq_true rfl) ?_
  show am_S _ _ _ _ _ _ _ (0, [some (.ref 22), some (.int w), none], [], h, 0, 0) _
  refine am_steps ok_Mo_push 5 (x' := (8, [some (.ref 22), some (.int w), some (.int 24)], [.ref 22], h, 0, 0)) rfl (Nat.le_of_ble_eq_true rfl) (Nat.le_of_ble_eq_true rfl) ?_
  refine ar_get ok_Mo_push rfl c_22 (v := .ref 23) rfl (pc' := 11) rfl (Nat.le_of_ble_eq_true rfl) (Nat.le_of_ble_eq_true rfl) ?_
  refine am_steps ok_Mo_push 1 (x' := (12, [some (.ref 22), some (.int w), some (.int 24)], [.ref 22, .ref 23], h, 0, 0)) rfl (Nat.le_of_ble_eq_true rfl) (Nat.le_of_ble_eq_true rfl) ?_
  refine ar_get ok_Mo_push rfl c_22 (v := .int 16) rfl (pc' := 15) rfl (Nat.le_of_ble_eq_true rfl) (Nat.le_of_ble_eq_true rfl) ?_
  refine am_steps ok_Mo_push 4 (x' := (19, [some (.ref 22), some (.int w), some (.int 24)], [.int (((w >>> (24 &&& 31))).toInt8.toInt32), .int 16, .ref 23], h, 0, 0)) rfl (Nat.le_of_ble_eq_true rfl) (Nat.le_of_ble_eq_true rfl) ?_
  refine ar_bast ok_Mo_push rfl c_23 (Or.inl rfl) (jx := 16) rfl (pc' := 20) rfl (Nat.le_of_ble_eq_true rfl) (Nat.le_of_ble_eq_true rfl) (fun h1 e2 e3 e4 => ?_)
  have c5 := (e3 22 (by decide)).trans c_22
  have fr6 : ∀ q, q ∉ ([23] : List Nat) → h1[q]? = h[q]? := fun q hq => e3 q (fun z => hq (by rw [z]; decide))
  have ln7 : h1.length = h.length := e4
  refine am_steps ok_Mo_push 2 (x' := (22, [some (.ref 22), some (.int w), some (.int 24)], [.ref 22, .ref 22], h1, 0, 0)) rfl (Nat.le_of_ble_eq_true rfl) (Nat.le_of_ble_eq_true rfl) ?_
  refine ar_get ok_Mo_push rfl c5 (v := .int 16) rfl (pc' := 25) rfl (Nat.le_of_ble_eq_true rfl) (Nat.le_of_ble_eq_true rfl) ?_
  refine am_steps ok_Mo_push 2 (x' := (27, [some (.ref 22), some (.int w), some (.int 24)], [.int 17, .ref 22], h1, 0, 0)) rfl (Nat.le_of_ble_eq_true rfl) (Nat.le_of_ble_eq_true rfl) ?_
  refine ar_put ok_Mo_push rfl c5 (Nat.le_of_ble_eq_true rfl) rfl (fs' := [.ref 23, .int 17, .ref 24, .int 0, .int 0, .int 0, .ref 25, .int 0, .int 0, .ref 26, .int 1, .ref 27, .ref 28, .ref 29, .ref 30, .int 0, .int (-1), .ref 31, .ref 32, .ref 33, .ref 34, .ref 35, .ref 36, .ref 37, .ref 38, .int 0, .ref 39, .ref 40, .ref 41, .ref 42, .int 0, .int 0, .int 0, .ref 43, .ref 44, .ref 45, .ref 46, .ref 47, .ref 48, .ref 49, .ref 50, .ref 51, .ref 52, .ref 53, .ref 54, .long 0, .ref 55, .ref 56, .int 0, .ref 57, .ref 58, .ref 59, .long 0, .int 0, .int 0, .int 0, .int 0, .int 1, .int (-1), .int 0, .int 0, .int 0]) rfl (pc' := 30) rfl (Nat.le_of_ble_eq_true rfl) (Nat.le_of_ble_eq_true rfl) (fun h8 e9 e10 e11 => ?_)
  have c12 := (e10 23 (by decide)).trans e2
  have fr13 : ∀ q, q ∉ ([23, 22] : List Nat) → h8[q]? = h[q]? := fun q hq => (e10 q (fun z => hq (by rw [z]; decide))).trans (fr6 q (am_sub (by decide) hq))
  have ln14 : h8.length = h.length := e11.trans ln7
  refine am_steps ok_Mo_push 5 (x' := (8, [some (.ref 22), some (.int w), some (.int 16)], [.ref 22], h8, 0, 0)) rfl (Nat.le_of_ble_eq_true rfl) (Nat.le_of_ble_eq_true rfl) ?_
  refine ar_get ok_Mo_push rfl e9 (v := .ref 23) rfl (pc' := 11) rfl (Nat.le_of_ble_eq_true rfl) (Nat.le_of_ble_eq_true rfl) ?_
  refine am_steps ok_Mo_push 1 (x' := (12, [some (.ref 22), some (.int w), some (.int 16)], [.ref 22, .ref 23], h8, 0, 0)) rfl (Nat.le_of_ble_eq_true rfl) (Nat.le_of_ble_eq_true rfl) ?_
  refine ar_get ok_Mo_push rfl e9 (v := .int 17) rfl (pc' := 15) rfl (Nat.le_of_ble_eq_true rfl) (Nat.le_of_ble_eq_true rfl) ?_
  refine am_steps ok_Mo_push 4 (x' := (19, [some (.ref 22), some (.int w), some (.int 16)], [.int (((w >>> (16 &&& 31))).toInt8.toInt32), .int 17, .ref 23], h8, 0, 0)) rfl (Nat.le_of_ble_eq_true rfl) (Nat.le_of_ble_eq_true rfl) ?_
  refine ar_bast ok_Mo_push rfl c12 (Or.inl rfl) (jx := 17) rfl (pc' := 20) rfl (Nat.le_of_ble_eq_true rfl) (Nat.le_of_ble_eq_true rfl) (fun h15 e16 e17 e18 => ?_)
  have c19 := (e17 22 (by decide)).trans e9
  have fr20 : ∀ q, q ∉ ([23, 22] : List Nat) → h15[q]? = h[q]? := fun q hq => (e17 q (fun z => hq (by rw [z]; decide))).trans (fr13 q (am_sub (by decide) hq))
  have ln21 : h15.length = h.length := e18.trans ln14
  refine am_steps ok_Mo_push 2 (x' := (22, [some (.ref 22), some (.int w), some (.int 16)], [.ref 22, .ref 22], h15, 0, 0)) rfl (Nat.le_of_ble_eq_true rfl) (Nat.le_of_ble_eq_true rfl) ?_
  refine ar_get ok_Mo_push rfl c19 (v := .int 17) rfl (pc' := 25) rfl (Nat.le_of_ble_eq_true rfl) (Nat.le_of_ble_eq_true rfl) ?_
  refine am_steps ok_Mo_push 2 (x' := (27, [some (.ref 22), some (.int w), some (.int 16)], [.int 18, .ref 22], h15, 0, 0)) rfl (Nat.le_of_ble_eq_true rfl) (Nat.le_of_ble_eq_true rfl) ?_
  refine ar_put ok_Mo_push rfl c19 (Nat.le_of_ble_eq_true rfl) rfl (fs' := [.ref 23, .int 18, .ref 24, .int 0, .int 0, .int 0, .ref 25, .int 0, .int 0, .ref 26, .int 1, .ref 27, .ref 28, .ref 29, .ref 30, .int 0, .int (-1), .ref 31, .ref 32, .ref 33, .ref 34, .ref 35, .ref 36, .ref 37, .ref 38, .int 0, .ref 39, .ref 40, .ref 41, .ref 42, .int 0, .int 0, .int 0, .ref 43, .ref 44, .ref 45, .ref 46, .ref 47, .ref 48, .ref 49, .ref 50, .ref 51, .ref 52, .ref 53, .ref 54, .long 0, .ref 55, .ref 56, .int 0, .ref 57, .ref 58, .ref 59, .long 0, .int 0, .int 0, .int 0, .int 0, .int 1, .int (-1), .int 0, .int 0, .int 0]) rfl (pc' := 30) rfl (Nat.le_of_ble_eq_true rfl) (Nat.le_of_ble_eq_true rfl) (fun h22 e23 e24 e25 => ?_)
  have c26 := (e24 23 (by decide)).trans e16
  have fr27 : ∀ q, q ∉ ([23, 22] : List Nat) → h22[q]? = h[q]? := fun q hq => (e24 q (fun z => hq (by rw [z]; decide))).trans (fr20 q (am_sub (by decide) hq))
  have ln28 : h22.length = h.length := e25.trans ln21
  refine am_steps ok_Mo_push 5 (x' := (8, [some (.ref 22), some (.int w), some (.int 8)], [.ref 22], h22, 0, 0)) rfl (Nat.le_of_ble_eq_true rfl) (Nat.le_of_ble_eq_true rfl) ?_
  refine ar_get ok_Mo_push rfl e23 (v := .ref 23) rfl (pc' := 11) rfl (Nat.le_of_ble_eq_true rfl) (Nat.le_of_ble_eq_true rfl) ?_
  refine am_steps ok_Mo_push 1 (x' := (12, [some (.ref 22), some (.int w), some (.int 8)], [.ref 22, .ref 23], h22, 0, 0)) rfl (Nat.le_of_ble_eq_true rfl) (Nat.le_of_ble_eq_true rfl) ?_
  refine ar_get ok_Mo_push rfl e23 (v := .int 18) rfl (pc' := 15) rfl (Nat.le_of_ble_eq_true rfl) (Nat.le_of_ble_eq_true rfl) ?_
  refine am_steps ok_Mo_push 4 (x' := (19, [some (.ref 22), some (.int w), some (.int 8)], [.int (((w >>> (8 &&& 31))).toInt8.toInt32), .int 18, .ref 23], h22, 0, 0)) rfl (Nat.le_of_ble_eq_true rfl) (Nat.le_of_ble_eq_true rfl) ?_
  refine ar_bast ok_Mo_push rfl c26 (Or.inl rfl) (jx := 18) rfl (pc' := 20) rfl (Nat.le_of_ble_eq_true rfl) (Nat.le_of_ble_eq_true rfl) (fun h29 e30 e31 e32 => ?_)
  have c33 := (e31 22 (by decide)).trans e23
  have fr34 : ∀ q, q ∉ ([23, 22] : List Nat) → h29[q]? = h[q]? := fun q hq => (e31 q (fun z => hq (by rw [z]; decide))).trans (fr27 q (am_sub (by decide) hq))
  have ln35 : h29.length = h.length := e32.trans ln28
  refine am_steps ok_Mo_push 2 (x' := (22, [some (.ref 22), some (.int w), some (.int 8)], [.ref 22, .ref 22], h29, 0, 0)) rfl (Nat.le_of_ble_eq_true rfl) (Nat.le_of_ble_eq_true rfl) ?_
  refine ar_get ok_Mo_push rfl c33 (v := .int 18) rfl (pc' := 25) rfl (Nat.le_of_ble_eq_true rfl) (Nat.le_of_ble_eq_true rfl) ?_
  refine am_steps ok_Mo_push 2 (x' := (27, [some (.ref 22), some (.int w), some (.int 8)], [.int 19, .ref 22], h29, 0, 0)) rfl (Nat.le_of_ble_eq_true rfl) (Nat.le_of_ble_eq_true rfl) ?_
  refine ar_put ok_Mo_push rfl c33 (Nat.le_of_ble_eq_true rfl) rfl (fs' := [.ref 23, .int 19, .ref 24, .int 0, .int 0, .int 0, .ref 25, .int 0, .int 0, .ref 26, .int 1, .ref 27, .ref 28, .ref 29, .ref 30, .int 0, .int (-1), .ref 31, .ref 32, .ref 33, .ref 34, .ref 35, .ref 36, .ref 37, .ref 38, .int 0, .ref 39, .ref 40, .ref 41, .ref 42, .int 0, .int 0, .int 0, .ref 43, .ref 44, .ref 45, .ref 46, .ref 47, .ref 48, .ref 49, .ref 50, .ref 51, .ref 52, .ref 53, .ref 54, .long 0, .ref 55, .ref 56, .int 0, .ref 57, .ref 58, .ref 59, .long 0, .int 0, .int 0, .int 0, .int 0, .int 1, .int (-1), .int 0, .int 0, .int 0]) rfl (pc' := 30) rfl (Nat.le_of_ble_eq_true rfl) (Nat.le_of_ble_eq_true rfl) (fun h36 e37 e38 e39 => ?_)
  have c40 := (e38 23 (by decide)).trans e30
  have fr41 : ∀ q, q ∉ ([23, 22] : List Nat) → h36[q]? = h[q]? := fun q hq => (e38 q (fun z => hq (by rw [z]; decide))).trans (fr34 q (am_sub (by decide) hq))
  have ln42 : h36.length = h.length := e39.trans ln35
  refine am_steps ok_Mo_push 5 (x' := (8, [some (.ref 22), some (.int w), some (.int 0)], [.ref 22], h36, 0, 0)) rfl (Nat.le_of_ble_eq_true rfl) (Nat.le_of_ble_eq_true rfl) ?_
  refine ar_get ok_Mo_push rfl e37 (v := .ref 23) rfl (pc' := 11) rfl (Nat.le_of_ble_eq_true rfl) (Nat.le_of_ble_eq_true rfl) ?_
  refine am_steps ok_Mo_push 1 (x' := (12, [some (.ref 22), some (.int w), some (.int 0)], [.ref 22, .ref 23], h36, 0, 0)) rfl (Nat.le_of_ble_eq_true rfl) (Nat.le_of_ble_eq_true rfl) ?_
  refine ar_get ok_Mo_push rfl e37 (v := .int 19) rfl (pc' := 15) rfl (Nat.le_of_ble_eq_true rfl) (Nat.le_of_ble_eq_true rfl) ?_
  refine am_steps ok_Mo_push 4 (x' := (19, [some (.ref 22), some (.int w), some (.int 0)], [.int (((w >>> (0 &&& 31))).toInt8.toInt32), .int 19, .ref 23], h36, 0, 0)) rfl (Nat.le_of_ble_eq_true rfl) (Nat.le_of_ble_eq_true rfl) ?_
  refine ar_bast ok_Mo_push rfl c40 (Or.inl rfl) (jx := 19) rfl (pc' := 20) rfl (Nat.le_of_ble_eq_true rfl) (Nat.le_of_ble_eq_true rfl) (fun h43 e44 e45 e46 => ?_)
  have c47 := (e45 22 (by decide)).trans e37
  have fr48 : ∀ q, q ∉ ([23, 22] : List Nat) → h43[q]? = h[q]? := fun q hq => (e45 q (fun z => hq (by rw [z]; decide))).trans (fr41 q (am_sub (by decide) hq))
  have ln49 : h43.length = h.length := e46.trans ln42
  refine am_steps ok_Mo_push 2 (x' := (22, [some (.ref 22), some (.int w), some (.int 0)], [.ref 22, .ref 22], h43, 0, 0)) rfl (Nat.le_of_ble_eq_true rfl) (Nat.le_of_ble_eq_true rfl) ?_
  refine ar_get ok_Mo_push rfl c47 (v := .int 19) rfl (pc' := 25) rfl (Nat.le_of_ble_eq_true rfl) (Nat.le_of_ble_eq_true rfl) ?_
  refine am_steps ok_Mo_push 2 (x' := (27, [some (.ref 22), some (.int w), some (.int 0)], [.int 20, .ref 22], h43, 0, 0)) rfl (Nat.le_of_ble_eq_true rfl) (Nat.le_of_ble_eq_true rfl) ?_
  refine ar_put ok_Mo_push rfl c47 (Nat.le_of_ble_eq_true rfl) rfl (fs' := [.ref 23, .int 20, .ref 24, .int 0, .int 0, .int 0, .ref 25, .int 0, .int 0, .ref 26, .int 1, .ref 27, .ref 28, .ref 29, .ref 30, .int 0, .int (-1), .ref 31, .ref 32, .ref 33, .ref 34, .ref 35, .ref 36, .ref 37, .ref 38, .int 0, .ref 39, .ref 40, .ref 41, .ref 42, .int 0, .int 0, .int 0, .ref 43, .ref 44, .ref 45, .ref 46, .ref 47, .ref 48, .ref 49, .ref 50, .ref 51, .ref 52, .ref 53, .ref 54, .long 0, .ref 55, .ref 56, .int 0, .ref 57, .ref 58, .ref 59, .long 0, .int 0, .int 0, .int 0, .int 0, .int 1, .int (-1), .int 0, .int 0, .int 0]) rfl (pc' := 30) rfl (Nat.le_of_ble_eq_true rfl) (Nat.le_of_ble_eq_true rfl) (fun h50 e51 e52 e53 => ?_)
  have c54 := (e52 23 (by decide)).trans e44
  have fr55 : ∀ q, q ∉ ([23, 22] : List Nat) → h50[q]? = h[q]? := fun q hq => (e52 q (fun z => hq (by rw [z]; decide))).trans (fr48 q (am_sub (by decide) hq))
  have ln56 : h50.length = h.length := e53.trans ln49
  refine am_steps ok_Mo_push 4 (x' := (36, [some (.ref 22), some (.int w), some (.int (-8))], [], h50, 0, 0)) rfl (Nat.le_of_ble_eq_true rfl) (Nat.le_of_ble_eq_true rfl) ?_
  exact am_ret ok_Mo_push rfl (Nat.le_of_ble_eq_true rfl) (Nat.le_of_ble_eq_true rfl) ⟨rfl, e51, c54, fun q hq => fr55 q (am_sub (by decide) hq), ln56⟩
set_option maxHeartbeats 4000000 in
set_option maxRecDepth 100000 in
theorem u_feed (a : Int32) (b : Int32) (c : Int32) (d : Int32) (e : Int32) (f : Nat → Int32) (h : am_H) (c_22 : h[22]? = some (.inr (1, mo 0 0 0 0 (-1) 0 0))) (c_23 : h[23]? = some (.inl (2, 400, .inl f)))  : am_Me am_Pr none 1 22 0 0 15 [.ref 22, .int a, .int b, .int c, .int d, .int e] h (fun r h' => r = some (.int 1)) := by
  refine am_enter (d := hd_Mo_feed) rfl (by decide +kernel) (Nat.le_of_ble_eq_true rfl) ?_
  show am_S _ _ _ _ _ _ _ (0, [some (.ref 22), some (.int a), some (.int b), some (.int c), some (.int d), some (.int e)], [], h, 0, 0) _
  refine am_steps ok_Mo_feed 1 (x' := (1, [some (.ref 22), some (.int a), some (.int b), some (.int c), some (.int d), some (.int e)], [.ref 22], h, 0, 0)) rfl (Nat.le_of_ble_eq_true rfl) (Nat.le_of_ble_eq_true rfl) ?_
  refine ar_get ok_Mo_feed rfl c_22 (v := .int 0) rfl (pc' := 4) rfl (Nat.le_of_ble_eq_true rfl) (Nat.le_of_ble_eq_true rfl) ?_
  refine am_steps ok_Mo_feed 6 (x' := (17, [some (.ref 22), some (.int a), some (.int b), some (.int c), some (.int d), some (.int e)], [.int a, .ref 22], h, 0, 0)) rfl (Nat.le_of_ble_eq_true rfl) (Nat.le_of_ble_eq_true rfl) ?_
  refine ar_cv ok_Mo_feed hk_Mo_push rfl rfl (As := [.int a]) (ad := 22) (rest := []) rfl rfl c_22 (by decide) (m_push_0 a f h c_22 c_23 ) (Nat.le_of_ble_eq_true rfl) (Nat.le_of_ble_eq_true rfl) (Nat.le_of_ble_eq_true rfl) (Nat.le_of_ble_eq_true rfl) (pc' := 20) rfl (fun r1 h2 q3 => ?_)
  obtain ⟨rfl, e4, e5, f6, l7⟩ := q3
  show am_S _ _ _ _ _ _ _ (20, [some (.ref 22), some (.int a), some (.int b), some (.int c), some (.int d), some (.int e)], [], h2, 0, 0) _
  have fr8 : ∀ q, q ∉ ([22, 23] : List Nat) → h2[q]? = h[q]? := fun q hq => f6 q (am_sub (by decide) hq)
  have ln9 : h2.length = h.length := l7
  refine am_steps ok_Mo_feed 2 (x' := (22, [some (.ref 22), some (.int a), some (.int b), some (.int c), some (.int d), some (.int e)], [.int b, .ref 22], h2, 0, 0)) rfl (Nat.le_of_ble_eq_true rfl) (Nat.le_of_ble_eq_true rfl) ?_
  refine ar_cv ok_Mo_feed hk_Mo_push rfl rfl (As := [.int b]) (ad := 22) (rest := []) rfl rfl e4 (by decide) (m_push_4 b (upd (upd (upd (upd f 0 (am_bn 2 ((((a >>> (24 &&& 31))).toInt8.toInt32)))) 1 (am_bn 2 ((((a >>> (16 &&& 31))).toInt8.toInt32)))) 2 (am_bn 2 ((((a >>> (8 &&& 31))).toInt8.toInt32)))) 3 (am_bn 2 ((((a >>> (0 &&& 31))).toInt8.toInt32)))) h2 e4 e5 ) (Nat.le_of_ble_eq_true rfl) (Nat.le_of_ble_eq_true rfl) (Nat.le_of_ble_eq_true rfl) (Nat.le_of_ble_eq_true rfl) (pc' := 25) rfl (fun r10 h11 q12 => ?_)
  obtain ⟨rfl, e13, e14, f15, l16⟩ := q12
  show am_S _ _ _ _ _ _ _ (25, [some (.ref 22), some (.int a), some (.int b), some (.int c), some (.int d), some (.int e)], [], h11, 0, 0) _
  have fr17 : ∀ q, q ∉ ([22, 23] : List Nat) → h11[q]? = h[q]? := fun q hq => (f15 q (am_sub (by decide) hq)).trans (fr8 q (am_sub (by decide) hq))
  have ln18 : h11.length = h.length := l16.trans ln9
  refine am_steps ok_Mo_feed 2 (x' := (27, [some (.ref 22), some (.int a), some (.int b), some (.int c), some (.int d), some (.int e)], [.int c, .ref 22], h11, 0, 0)) rfl (Nat.le_of_ble_eq_true rfl) (Nat.le_of_ble_eq_true rfl) ?_
  refine ar_cv ok_Mo_feed hk_Mo_push rfl rfl (As := [.int c]) (ad := 22) (rest := []) rfl rfl e13 (by decide) (m_push_8 c (upd (upd (upd (upd (upd (upd (upd (upd f 0 (am_bn 2 ((((a >>> (24 &&& 31))).toInt8.toInt32)))) 1 (am_bn 2 ((((a >>> (16 &&& 31))).toInt8.toInt32)))) 2 (am_bn 2 ((((a >>> (8 &&& 31))).toInt8.toInt32)))) 3 (am_bn 2 ((((a >>> (0 &&& 31))).toInt8.toInt32)))) 4 (am_bn 2 ((((b >>> (24 &&& 31))).toInt8.toInt32)))) 5 (am_bn 2 ((((b >>> (16 &&& 31))).toInt8.toInt32)))) 6 (am_bn 2 ((((b >>> (8 &&& 31))).toInt8.toInt32)))) 7 (am_bn 2 ((((b >>> (0 &&& 31))).toInt8.toInt32)))) h11 e13 e14 ) (Nat.le_of_ble_eq_true rfl) (Nat.le_of_ble_eq_true rfl) (Nat.le_of_ble_eq_true rfl) (Nat.le_of_ble_eq_true rfl) (pc' := 30) rfl (fun r19 h20 q21 => ?_)
  obtain ⟨rfl, e22, e23, f24, l25⟩ := q21
  show am_S _ _ _ _ _ _ _ (30, [some (.ref 22), some (.int a), some (.int b), some (.int c), some (.int d), some (.int e)], [], h20, 0, 0) _
  have fr26 : ∀ q, q ∉ ([22, 23] : List Nat) → h20[q]? = h[q]? := fun q hq => (f24 q (am_sub (by decide) hq)).trans (fr17 q (am_sub (by decide) hq))
  have ln27 : h20.length = h.length := l25.trans ln18
  refine am_steps ok_Mo_feed 2 (x' := (33, [some (.ref 22), some (.int a), some (.int b), some (.int c), some (.int d), some (.int e)], [.int d, .ref 22], h20, 0, 0)) rfl (Nat.le_of_ble_eq_true rfl) (Nat.le_of_ble_eq_true rfl) ?_
  refine ar_cv ok_Mo_feed hk_Mo_push rfl rfl (As := [.int d]) (ad := 22) (rest := []) rfl rfl e22 (by decide) (m_push_12 d (upd (upd (upd (upd (upd (upd (upd (upd (upd (upd (upd (upd f 0 (am_bn 2 ((((a >>> (24 &&& 31))).toInt8.toInt32)))) 1 (am_bn 2 ((((a >>> (16 &&& 31))).toInt8.toInt32)))) 2 (am_bn 2 ((((a >>> (8 &&& 31))).toInt8.toInt32)))) 3 (am_bn 2 ((((a >>> (0 &&& 31))).toInt8.toInt32)))) 4 (am_bn 2 ((((b >>> (24 &&& 31))).toInt8.toInt32)))) 5 (am_bn 2 ((((b >>> (16 &&& 31))).toInt8.toInt32)))) 6 (am_bn 2 ((((b >>> (8 &&& 31))).toInt8.toInt32)))) 7 (am_bn 2 ((((b >>> (0 &&& 31))).toInt8.toInt32)))) 8 (am_bn 2 ((((c >>> (24 &&& 31))).toInt8.toInt32)))) 9 (am_bn 2 ((((c >>> (16 &&& 31))).toInt8.toInt32)))) 10 (am_bn 2 ((((c >>> (8 &&& 31))).toInt8.toInt32)))) 11 (am_bn 2 ((((c >>> (0 &&& 31))).toInt8.toInt32)))) h20 e22 e23 ) (Nat.le_of_ble_eq_true rfl) (Nat.le_of_ble_eq_true rfl) (Nat.le_of_ble_eq_true rfl) (Nat.le_of_ble_eq_true rfl) (pc' := 36) rfl (fun r28 h29 q30 => ?_)
  obtain ⟨rfl, e31, e32, f33, l34⟩ := q30
  show am_S _ _ _ _ _ _ _ (36, [some (.ref 22), some (.int a), some (.int b), some (.int c), some (.int d), some (.int e)], [], h29, 0, 0) _
  have fr35 : ∀ q, q ∉ ([22, 23] : List Nat) → h29[q]? = h[q]? := fun q hq => (f33 q (am_sub (by decide) hq)).trans (fr26 q (am_sub (by decide) hq))
  have ln36 : h29.length = h.length := l34.trans ln27
  refine am_steps ok_Mo_feed 2 (x' := (39, [some (.ref 22), some (.int a), some (.int b), some (.int c), some (.int d), some (.int e)], [.int e, .ref 22], h29, 0, 0)) rfl (Nat.le_of_ble_eq_true rfl) (Nat.le_of_ble_eq_true rfl) ?_
  refine ar_cv ok_Mo_feed hk_Mo_push rfl rfl (As := [.int e]) (ad := 22) (rest := []) rfl rfl e31 (by decide) (m_push_16 e (upd (upd (upd (upd (upd (upd (upd (upd (upd (upd (upd (upd (upd (upd (upd (upd f 0 (am_bn 2 ((((a >>> (24 &&& 31))).toInt8.toInt32)))) 1 (am_bn 2 ((((a >>> (16 &&& 31))).toInt8.toInt32)))) 2 (am_bn 2 ((((a >>> (8 &&& 31))).toInt8.toInt32)))) 3 (am_bn 2 ((((a >>> (0 &&& 31))).toInt8.toInt32)))) 4 (am_bn 2 ((((b >>> (24 &&& 31))).toInt8.toInt32)))) 5 (am_bn 2 ((((b >>> (16 &&& 31))).toInt8.toInt32)))) 6 (am_bn 2 ((((b >>> (8 &&& 31))).toInt8.toInt32)))) 7 (am_bn 2 ((((b >>> (0 &&& 31))).toInt8.toInt32)))) 8 (am_bn 2 ((((c >>> (24 &&& 31))).toInt8.toInt32)))) 9 (am_bn 2 ((((c >>> (16 &&& 31))).toInt8.toInt32)))) 10 (am_bn 2 ((((c >>> (8 &&& 31))).toInt8.toInt32)))) 11 (am_bn 2 ((((c >>> (0 &&& 31))).toInt8.toInt32)))) 12 (am_bn 2 ((((d >>> (24 &&& 31))).toInt8.toInt32)))) 13 (am_bn 2 ((((d >>> (16 &&& 31))).toInt8.toInt32)))) 14 (am_bn 2 ((((d >>> (8 &&& 31))).toInt8.toInt32)))) 15 (am_bn 2 ((((d >>> (0 &&& 31))).toInt8.toInt32)))) h29 e31 e32 ) (Nat.le_of_ble_eq_true rfl) (Nat.le_of_ble_eq_true rfl) (Nat.le_of_ble_eq_true rfl) (Nat.le_of_ble_eq_true rfl) (pc' := 42) rfl (fun r37 h38 q39 => ?_)
  obtain ⟨rfl, e40, e41, f42, l43⟩ := q39
  show am_S _ _ _ _ _ _ _ (42, [some (.ref 22), some (.int a), some (.int b), some (.int c), some (.int d), some (.int e)], [], h38, 0, 0) _
  have fr44 : ∀ q, q ∉ ([22, 23] : List Nat) → h38[q]? = h[q]? := fun q hq => (f42 q (am_sub (by decide) hq)).trans (fr35 q (am_sub (by decide) hq))
  have ln45 : h38.length = h.length := l43.trans ln36
  refine am_steps ok_Mo_feed 1 (x' := (43, [some (.ref 22), some (.int a), some (.int b), some (.int c), some (.int d), some (.int e)], [.int 1], h38, 0, 0)) rfl (Nat.le_of_ble_eq_true rfl) (Nat.le_of_ble_eq_true rfl) ?_
  exact am_ret ok_Mo_feed rfl (Nat.le_of_ble_eq_true rfl) (Nat.le_of_ble_eq_true rfl) (rfl)
set_option maxHeartbeats 4000000 in
set_option maxRecDepth 100000 in
theorem u_send (n : Int32) (h : am_H) (c_22 : h[22]? = some (.inr (1, mo 0 0 0 0 (-1) 0 0)))  : am_Me am_Pr none 7 176 0 0 83 [.ref 22, .int n] h (fun r h' => r = some (.int 0)) := by
  refine am_enter (d := hd_Mo_send) rfl (by decide +kernel) (Nat.le_of_ble_eq_true rfl) ?_
  show am_S _ _ _ _ _ _ _ (0, [some (.ref 22), some (.int n), none], [], h, 0, 0) _
  refine am_steps ok_Mo_send 1 (x' := (1, [some (.ref 22), some (.int n), none], [.ref 22], h, 0, 0)) rfl (Nat.le_of_ble_eq_true rfl) (Nat.le_of_ble_eq_true rfl) ?_
  refine ar_get ok_Mo_send rfl c_22 (v := .int 1) rfl (pc' := 4) rfl (Nat.le_of_ble_eq_true rfl) (Nat.le_of_ble_eq_true rfl) ?_
  refine am_steps ok_Mo_send 4 (x' := (if (n : Int32) < 1 then 20 else 12, [some (.ref 22), some (.int n), none], [], h, 0, 0)) rfl (Nat.le_of_ble_eq_true rfl) (Nat.le_of_ble_eq_true rfl) ?_
  refine am_if (fun hc1 => ?_) (fun hc1 => ?_)
  · refine am_steps ok_Mo_send 1 (x' := (21, [some (.ref 22), some (.int n), none], [.int 0], h, 0, 0)) rfl (Nat.le_of_ble_eq_true rfl) (Nat.le_of_ble_eq_true rfl) ?_
    exact am_ret ok_Mo_send rfl (Nat.le_of_ble_eq_true rfl) (Nat.le_of_ble_eq_true rfl) (rfl)
  · refine am_steps ok_Mo_send 2 (x' := (14, [some (.ref 22), some (.int n), none], [.ref 22, .int n], h, 0, 0)) rfl (Nat.le_of_ble_eq_true rfl) (Nat.le_of_ble_eq_true rfl) ?_
    refine ar_get ok_Mo_send rfl c_22 (v := .int 0) rfl (pc' := 17) rfl (Nat.le_of_ble_eq_true rfl) (Nat.le_of_ble_eq_true rfl) ?_
    refine am_steps ok_Mo_send 1 (x' := (if (n : Int32) ≤ 0 then 22 else 20, [some (.ref 22), some (.int n), none], [], h, 0, 0)) rfl (Nat.le_of_ble_eq_true rfl) (Nat.le_of_ble_eq_true rfl) ?_
    refine am_if (fun hc2 => ?_) (fun hc2 => ?_)
    · exact (am_no1 hc1 hc2).elim
    · refine am_steps ok_Mo_send 1 (x' := (21, [some (.ref 22), some (.int n), none], [.int 0], h, 0, 0)) rfl (Nat.le_of_ble_eq_true rfl) (Nat.le_of_ble_eq_true rfl) ?_
      exact am_ret ok_Mo_send rfl (Nat.le_of_ble_eq_true rfl) (Nat.le_of_ble_eq_true rfl) (rfl)
set_option maxHeartbeats 4000000 in
set_option maxRecDepth 100000 in
theorem u_fetch  (h : am_H) (c_22 : h[22]? = some (.inr (1, mo 0 0 0 0 (-1) 0 0)))  : am_Me am_Pr none 0 0 0 0 20 [.ref 22] h (fun r h' => r = some (.long 0)) := by
  refine am_enter (d := hd_Mo_fetch) rfl (by decide +kernel) (Nat.le_of_ble_eq_true rfl) ?_
  show am_S _ _ _ _ _ _ _ (0, [some (.ref 22), none, none, none, none], [], h, 0, 0) _
  refine am_steps ok_Mo_fetch 3 (x' := (3, [some (.ref 22), some (.long 0), none, none, none], [.ref 22], h, 0, 0)) rfl (Nat.le_of_ble_eq_true rfl) (Nat.le_of_ble_eq_true rfl) ?_
  refine ar_get ok_Mo_fetch rfl c_22 (v := .int 0) rfl (pc' := 6) rfl (Nat.le_of_ble_eq_true rfl) (Nat.le_of_ble_eq_true rfl) ?_
  refine am_steps ok_Mo_fetch 1 (x' := (7, [some (.ref 22), some (.long 0), none, none, none], [.ref 22, .int 0], h, 0, 0)) rfl (Nat.le_of_ble_eq_true rfl) (Nat.le_of_ble_eq_true rfl) ?_
  refine ar_get ok_Mo_fetch rfl c_22 (v := .int 0) rfl (pc' := 10) rfl (Nat.le_of_ble_eq_true rfl) (Nat.le_of_ble_eq_true rfl) ?_
  refine ar_isub ok_Mo_fetch rfl (w := 0) (by decide +kernel) (pc' := 11) rfl (Nat.le_of_ble_eq_true rfl) (Nat.le_of_ble_eq_true rfl) ?_
  refine am_steps ok_Mo_fetch 3 (x' := (17, [some (.ref 22), some (.long 0), none, none, none], [.ref 22], h, 0, 0)) rfl (Nat.le_of_ble_eq_true rfl) (Nat.le_of_ble_eq_true rfl) ?_
  refine ar_get ok_Mo_fetch rfl c_22 (v := .int 0) rfl (pc' := 20) rfl (Nat.le_of_ble_eq_true rfl) (Nat.le_of_ble_eq_true rfl) ?_
  refine am_steps ok_Mo_fetch 1 (x' := (21, [some (.ref 22), some (.long 0), none, none, none], [.ref 22, .int 0], h, 0, 0)) rfl (Nat.le_of_ble_eq_true rfl) (Nat.le_of_ble_eq_true rfl) ?_
  refine ar_get ok_Mo_fetch rfl c_22 (v := .int 0) rfl (pc' := 24) rfl (Nat.le_of_ble_eq_true rfl) (Nat.le_of_ble_eq_true rfl) ?_
  refine ar_isub ok_Mo_fetch rfl (w := 0) (by decide +kernel) (pc' := 25) rfl (Nat.le_of_ble_eq_true rfl) (Nat.le_of_ble_eq_true rfl) ?_
  refine am_steps ok_Mo_fetch 5 (x' := (36, [some (.ref 22), some (.long 0), none, some (.int 0), none], [.long 0], h, 0, 0)) rfl (Nat.le_of_ble_eq_true rfl) (Nat.le_of_ble_eq_true rfl) ?_
  exact am_ret ok_Mo_fetch rfl (Nat.le_of_ble_eq_true rfl) (Nat.le_of_ble_eq_true rfl) (rfl)
set_option maxHeartbeats 4000000 in
set_option maxRecDepth 100000 in
theorem u_charge (n : Int32) (h : am_H) (c_22 : h[22]? = some (.inr (1, mo 0 0 0 0 (-1) 0 0)))  : am_Me am_Pr none 0 0 0 0 90 [.ref 22, .int n] h (fun r h' => r = some (.int (am_ch n))) := by
  refine am_enter (d := hd_Mo_charge) rfl (by decide +kernel) (Nat.le_of_ble_eq_true rfl) ?_
  show am_S _ _ _ _ _ _ _ (0, [some (.ref 22), some (.int n)], [], h, 0, 0) _
  refine am_steps ok_Mo_charge 2 (x' := (if (n : Int32) < 0 then 11 else 4, [some (.ref 22), some (.int n)], [], h, 0, 0)) rfl (Nat.le_of_ble_eq_true rfl) (Nat.le_of_ble_eq_true rfl) ?_
  refine am_if (fun hc1 => ?_) (fun hc1 => ?_)
  · refine am_steps ok_Mo_charge 1 (x' := (12, [some (.ref 22), some (.int n)], [.int 0], h, 0, 0)) rfl (Nat.le_of_ble_eq_true rfl) (Nat.le_of_ble_eq_true rfl) ?_
    exact am_ret ok_Mo_charge rfl (Nat.le_of_ble_eq_true rfl) (Nat.le_of_ble_eq_true rfl) (by unfold am_ch; rw [if_pos hc1])
  · refine am_steps ok_Mo_charge 3 (x' := (if (n : Int32) ≤ 9999 then 13 else 11, [some (.ref 22), some (.int n)], [], h, 0, 0)) rfl (Nat.le_of_ble_eq_true rfl) (Nat.le_of_ble_eq_true rfl) ?_
    refine am_if (fun hc2 => ?_) (fun hc2 => ?_)
    · refine am_steps ok_Mo_charge 2 (x' := (15, [some (.ref 22), some (.int n)], [.int n, .ref 22], h, 0, 0)) rfl (Nat.le_of_ble_eq_true rfl) (Nat.le_of_ble_eq_true rfl) ?_
      refine ar_put ok_Mo_charge rfl c_22 (Nat.le_of_ble_eq_true rfl) rfl (fs' := [.ref 23, .int 0, .ref 24, .int 0, .int 0, .int 0, .ref 25, .int 0, .int 0, .ref 26, .int 1, .ref 27, .ref 28, .ref 29, .ref 30, .int 0, .int (-1), .ref 31, .ref 32, .ref 33, .ref 34, .ref 35, .ref 36, .ref 37, .ref 38, .int 0, .ref 39, .ref 40, .ref 41, .ref 42, .int 0, .int 0, .int 0, .ref 43, .ref 44, .ref 45, .ref 46, .ref 47, .ref 48, .ref 49, .ref 50, .ref 51, .ref 52, .ref 53, .ref 54, .long 0, .ref 55, .ref 56, .int 0, .ref 57, .ref 58, .ref 59, .long 0, .int 0, .int 0, .int 0, .int 0, .int 1, .int n, .int 0, .int 0, .int 0]) rfl (pc' := 18) rfl (Nat.le_of_ble_eq_true rfl) (Nat.le_of_ble_eq_true rfl) (fun h3 e4 e5 e6 => ?_)
      have fr7 : ∀ q, q ∉ ([22] : List Nat) → h3[q]? = h[q]? := fun q hq => e5 q (fun z => hq (by rw [z]; decide))
      have ln8 : h3.length = h.length := e6
      refine am_steps ok_Mo_charge 1 (x' := (19, [some (.ref 22), some (.int n)], [.int 1], h3, 0, 0)) rfl (Nat.le_of_ble_eq_true rfl) (Nat.le_of_ble_eq_true rfl) ?_
      exact am_ret ok_Mo_charge rfl (Nat.le_of_ble_eq_true rfl) (Nat.le_of_ble_eq_true rfl) (by unfold am_ch; rw [if_neg hc1, if_pos hc2])
    · refine am_steps ok_Mo_charge 1 (x' := (12, [some (.ref 22), some (.int n)], [.int 0], h, 0, 0)) rfl (Nat.le_of_ble_eq_true rfl) (Nat.le_of_ble_eq_true rfl) ?_
      exact am_ret ok_Mo_charge rfl (Nat.le_of_ble_eq_true rfl) (Nat.le_of_ble_eq_true rfl) (by unfold am_ch; rw [if_neg hc1, if_neg hc2])
set_option maxHeartbeats 4000000 in
set_option maxRecDepth 100000 in
theorem u_start  (h : am_H) (c_22 : h[22]? = some (.inr (1, mo 0 0 0 0 (-1) 0 0)))  : am_Me am_Pr none 3 60 0 0 91 [.ref 22] h (fun r h' => r = some (.int 0)) := by
  refine am_enter (d := hd_Mo_start) rfl (by decide +kernel) (Nat.le_of_ble_eq_true rfl) ?_
  show am_S _ _ _ _ _ _ _ (0, [some (.ref 22)], [], h, 0, 0) _
  refine am_steps ok_Mo_start 1 (x' := (1, [some (.ref 22)], [.ref 22], h, 0, 0)) rfl (Nat.le_of_ble_eq_true rfl) (Nat.le_of_ble_eq_true rfl) ?_
  refine ar_get ok_Mo_start rfl c_22 (v := .int 1) rfl (pc' := 4) rfl (Nat.le_of_ble_eq_true rfl) (Nat.le_of_ble_eq_true rfl) ?_
  refine am_steps ok_Mo_start 2 (x' := (8, [some (.ref 22)], [.int 0], h, 0, 0)) rfl (Nat.le_of_ble_eq_true rfl) (Nat.le_of_ble_eq_true rfl) ?_
  exact am_ret ok_Mo_start rfl (Nat.le_of_ble_eq_true rfl) (Nat.le_of_ble_eq_true rfl) (rfl)
set_option maxHeartbeats 4000000 in
set_option maxRecDepth 100000 in
theorem u_broken  (h : am_H) (c_22 : h[22]? = some (.inr (1, mo 0 0 0 0 (-1) 0 0)))  : am_Me am_Pr none 0 0 0 0 95 [.ref 22] h (fun r h' => r = some (.int 0)) := by
  refine am_enter (d := hd_Mo_broken) rfl (by decide +kernel) (Nat.le_of_ble_eq_true rfl) ?_
  show am_S _ _ _ _ _ _ _ (0, [some (.ref 22)], [], h, 0, 0) _
  refine am_steps ok_Mo_broken 1 (x' := (1, [some (.ref 22)], [.ref 22], h, 0, 0)) rfl (Nat.le_of_ble_eq_true rfl) (Nat.le_of_ble_eq_true rfl) ?_
  refine ar_get ok_Mo_broken rfl c_22 (v := .int 0) rfl (pc' := 4) rfl (Nat.le_of_ble_eq_true rfl) (Nat.le_of_ble_eq_true rfl) ?_
  exact am_ret ok_Mo_broken rfl (Nat.le_of_ble_eq_true rfl) (Nat.le_of_ble_eq_true rfl) (rfl)
set_option maxHeartbeats 4000000 in
set_option maxRecDepth 100000 in
theorem u_position (x : Int32) (y : Int32) (h : am_H) (c_22 : h[22]? = some (.inr (1, mo 0 0 0 0 (-1) 0 0)))  : am_Me am_Pr none 0 0 0 0 92 [.ref 22, .int x, .int y] h (fun r h' => r = some (.long 0)) := by
  refine am_enter (d := hd_Mo_position) rfl (by decide +kernel) (Nat.le_of_ble_eq_true rfl) ?_
  show am_S _ _ _ _ _ _ _ (0, [some (.ref 22), some (.int x), some (.int y)], [], h, 0, 0) _
  refine am_steps ok_Mo_position 1 (x' := (1, [some (.ref 22), some (.int x), some (.int y)], [.ref 22], h, 0, 0)) rfl (Nat.le_of_ble_eq_true rfl) (Nat.le_of_ble_eq_true rfl) ?_
  refine ar_get ok_Mo_position rfl c_22 (v := .int 1) rfl (pc' := 4) rfl (Nat.le_of_ble_eq_true rfl) (Nat.le_of_ble_eq_true rfl) ?_
  refine am_steps ok_Mo_position 3 (x' := (if (x : Int32) < 0 then 31 else 11, [some (.ref 22), some (.int x), some (.int y)], [], h, 0, 0)) rfl (Nat.le_of_ble_eq_true rfl) (Nat.le_of_ble_eq_true rfl) ?_
  refine am_if (fun hc1 => ?_) (fun hc1 => ?_)
  · refine am_steps ok_Mo_position 2 (x' := (46, [some (.ref 22), some (.int x), some (.int y)], [.long 0], h, 0, 0)) rfl (Nat.le_of_ble_eq_true rfl) (Nat.le_of_ble_eq_true rfl) ?_
    exact am_ret ok_Mo_position rfl (Nat.le_of_ble_eq_true rfl) (Nat.le_of_ble_eq_true rfl) (rfl)
  · refine am_steps ok_Mo_position 2 (x' := (13, [some (.ref 22), some (.int x), some (.int y)], [.ref 22, .int x], h, 0, 0)) rfl (Nat.le_of_ble_eq_true rfl) (Nat.le_of_ble_eq_true rfl) ?_
    refine ar_get ok_Mo_position rfl c_22 (v := .int 1) rfl (pc' := 16) rfl (Nat.le_of_ble_eq_true rfl) (Nat.le_of_ble_eq_true rfl) ?_
    refine am_steps ok_Mo_position 1 (x' := (if (1 : Int32) ≤ x then 31 else 19, [some (.ref 22), some (.int x), some (.int y)], [], h, 0, 0)) rfl (Nat.le_of_ble_eq_true rfl) (Nat.le_of_ble_eq_true rfl) ?_
    refine am_if (fun hc2 => ?_) (fun hc2 => ?_)
    · refine am_steps ok_Mo_position 2 (x' := (46, [some (.ref 22), some (.int x), some (.int y)], [.long 0], h, 0, 0)) rfl (Nat.le_of_ble_eq_true rfl) (Nat.le_of_ble_eq_true rfl) ?_
      exact am_ret ok_Mo_position rfl (Nat.le_of_ble_eq_true rfl) (Nat.le_of_ble_eq_true rfl) (rfl)
    · refine am_steps ok_Mo_position 2 (x' := (if (y : Int32) < 0 then 31 else 23, [some (.ref 22), some (.int x), some (.int y)], [], h, 0, 0)) rfl (Nat.le_of_ble_eq_true rfl) (Nat.le_of_ble_eq_true rfl) ?_
      refine am_if (fun hc3 => ?_) (fun hc3 => ?_)
      · refine am_steps ok_Mo_position 2 (x' := (46, [some (.ref 22), some (.int x), some (.int y)], [.long 0], h, 0, 0)) rfl (Nat.le_of_ble_eq_true rfl) (Nat.le_of_ble_eq_true rfl) ?_
        exact am_ret ok_Mo_position rfl (Nat.le_of_ble_eq_true rfl) (Nat.le_of_ble_eq_true rfl) (rfl)
      · refine am_steps ok_Mo_position 2 (x' := (25, [some (.ref 22), some (.int x), some (.int y)], [.ref 22, .int y], h, 0, 0)) rfl (Nat.le_of_ble_eq_true rfl) (Nat.le_of_ble_eq_true rfl) ?_
        refine ar_get ok_Mo_position rfl c_22 (v := .int 0) rfl (pc' := 28) rfl (Nat.le_of_ble_eq_true rfl) (Nat.le_of_ble_eq_true rfl) ?_
        refine am_steps ok_Mo_position 1 (x' := (if (y : Int32) < 0 then 35 else 31, [some (.ref 22), some (.int x), some (.int y)], [], h, 0, 0)) rfl (Nat.le_of_ble_eq_true rfl) (Nat.le_of_ble_eq_true rfl) ?_
        refine am_if (fun hc4 => ?_) (fun hc4 => ?_)
        · exact (hc3 hc4).elim
        · refine am_steps ok_Mo_position 2 (x' := (46, [some (.ref 22), some (.int x), some (.int y)], [.long 0], h, 0, 0)) rfl (Nat.le_of_ble_eq_true rfl) (Nat.le_of_ble_eq_true rfl) ?_
          exact am_ret ok_Mo_position rfl (Nat.le_of_ble_eq_true rfl) (Nat.le_of_ble_eq_true rfl) (rfl)
set_option maxHeartbeats 4000000 in
set_option maxRecDepth 100000 in
theorem m_wait0  (h : am_H) (c_22 : h[22]? = some (.inr (1, mo 0 0 0 0 (-1) 0 0)))  : am_Me am_Pr none 0 0 0 0 93 [.ref 22, .int 0] h (fun r h' => r = some (.int 0) ∧ (∀ q, q ∉ ([] : List Nat) → h'[q]? = h[q]?) ∧ h'.length = h.length) := by
  refine am_enter (d := hd_Mo_waiting) rfl (by decide +kernel) (Nat.le_of_ble_eq_true rfl) ?_
  show am_S _ _ _ _ _ _ _ (0, [some (.ref 22), some (.int 0), none, none], [], h, 0, 0) _
  refine am_steps ok_Mo_waiting 6 (x' := (6, [some (.ref 22), some (.int 0), some (.int 0), some (.int 0)], [.ref 22, .int 0], h, 0, 0)) rfl (Nat.le_of_ble_eq_true rfl) (Nat.le_of_ble_eq_true rfl) ?_
  refine ar_get ok_Mo_waiting rfl c_22 (v := .int 0) rfl (pc' := 9) rfl (Nat.le_of_ble_eq_true rfl) (Nat.le_of_ble_eq_true rfl) ?_
  refine am_steps ok_Mo_waiting 2 (x' := (37, [some (.ref 22), some (.int 0), some (.int 0), some (.int 0)], [.int 0], h, 0, 0)) rfl (Nat.le_of_ble_eq_true rfl) (Nat.le_of_ble_eq_true rfl) ?_
  exact am_ret ok_Mo_waiting rfl (Nat.le_of_ble_eq_true rfl) (Nat.le_of_ble_eq_true rfl) ⟨rfl, fun _ _ => rfl, rfl⟩
set_option maxHeartbeats 4000000 in
set_option maxRecDepth 100000 in
theorem m_wait1  (h : am_H) (c_22 : h[22]? = some (.inr (1, mo 0 0 0 0 (-1) 0 0)))  : am_Me am_Pr none 0 0 0 0 93 [.ref 22, .int 1] h (fun r h' => r = some (.int 0) ∧ (∀ q, q ∉ ([] : List Nat) → h'[q]? = h[q]?) ∧ h'.length = h.length) := by
  refine am_enter (d := hd_Mo_waiting) rfl (by decide +kernel) (Nat.le_of_ble_eq_true rfl) ?_
  show am_S _ _ _ _ _ _ _ (0, [some (.ref 22), some (.int 1), none, none], [], h, 0, 0) _
  refine am_steps ok_Mo_waiting 6 (x' := (6, [some (.ref 22), some (.int 1), some (.int 0), some (.int 0)], [.ref 22, .int 0], h, 0, 0)) rfl (Nat.le_of_ble_eq_true rfl) (Nat.le_of_ble_eq_true rfl) ?_
  refine ar_get ok_Mo_waiting rfl c_22 (v := .int 0) rfl (pc' := 9) rfl (Nat.le_of_ble_eq_true rfl) (Nat.le_of_ble_eq_true rfl) ?_
  refine am_steps ok_Mo_waiting 2 (x' := (37, [some (.ref 22), some (.int 1), some (.int 0), some (.int 0)], [.int 0], h, 0, 0)) rfl (Nat.le_of_ble_eq_true rfl) (Nat.le_of_ble_eq_true rfl) ?_
  exact am_ret ok_Mo_waiting rfl (Nat.le_of_ble_eq_true rfl) (Nat.le_of_ble_eq_true rfl) ⟨rfl, fun _ _ => rfl, rfl⟩
set_option maxHeartbeats 4000000 in
set_option maxRecDepth 100000 in
theorem u_count_0  (h : am_H) (c_22 : h[22]? = some (.inr (1, mo 0 0 0 0 (-1) 0 0)))  : am_Me am_Pr none 1 23 0 0 94 [.ref 22, .int 0] h (fun r h' => r = some (.int (am_ct 0))) := by
  refine am_enter (d := hd_Mo_count) rfl (by decide +kernel) (Nat.le_of_ble_eq_true rfl) ?_
  show am_S _ _ _ _ _ _ _ (0, [some (.ref 22), some (.int 0)], [], h, 0, 0) _
  refine am_steps ok_Mo_count 1 (x' := (1, [some (.ref 22), some (.int 0)], [.ref 22], h, 0, 0)) rfl (Nat.le_of_ble_eq_true rfl) (Nat.le_of_ble_eq_true rfl) ?_
  refine ar_get ok_Mo_count rfl c_22 (v := .int 1) rfl (pc' := 4) rfl (Nat.le_of_ble_eq_true rfl) (Nat.le_of_ble_eq_true rfl) ?_
  refine am_steps ok_Mo_count 4 (x' := (81, [some (.ref 22), some (.int 0)], [.ref 22], h, 0, 0)) rfl (Nat.le_of_ble_eq_true rfl) (Nat.le_of_ble_eq_true rfl) ?_
  refine ar_get ok_Mo_count rfl c_22 (v := .int 1) rfl (pc' := 84) rfl (Nat.le_of_ble_eq_true rfl) (Nat.le_of_ble_eq_true rfl) ?_
  refine am_steps ok_Mo_count 3 (x' := (92, [some (.ref 22), some (.int 0)], [.int 1], h, 0, 0)) rfl (Nat.le_of_ble_eq_true rfl) (Nat.le_of_ble_eq_true rfl) ?_
  exact am_ret ok_Mo_count rfl (Nat.le_of_ble_eq_true rfl) (Nat.le_of_ble_eq_true rfl) ((by decide +kernel))
set_option maxHeartbeats 4000000 in
set_option maxRecDepth 100000 in
theorem u_count_1  (h : am_H) (c_22 : h[22]? = some (.inr (1, mo 0 0 0 0 (-1) 0 0)))  : am_Me am_Pr none 1 23 0 0 94 [.ref 22, .int 1] h (fun r h' => r = some (.int (am_ct 1))) := by
  refine am_enter (d := hd_Mo_count) rfl (by decide +kernel) (Nat.le_of_ble_eq_true rfl) ?_
  show am_S _ _ _ _ _ _ _ (0, [some (.ref 22), some (.int 1)], [], h, 0, 0) _
  refine am_steps ok_Mo_count 1 (x' := (1, [some (.ref 22), some (.int 1)], [.ref 22], h, 0, 0)) rfl (Nat.le_of_ble_eq_true rfl) (Nat.le_of_ble_eq_true rfl) ?_
  refine ar_get ok_Mo_count rfl c_22 (v := .int 1) rfl (pc' := 4) rfl (Nat.le_of_ble_eq_true rfl) (Nat.le_of_ble_eq_true rfl) ?_
  refine am_steps ok_Mo_count 4 (x' := (94, [some (.ref 22), some (.int 1)], [.ref 22], h, 0, 0)) rfl (Nat.le_of_ble_eq_true rfl) (Nat.le_of_ble_eq_true rfl) ?_
  refine ar_get ok_Mo_count rfl c_22 (v := .int 0) rfl (pc' := 97) rfl (Nat.le_of_ble_eq_true rfl) (Nat.le_of_ble_eq_true rfl) ?_
  exact am_ret ok_Mo_count rfl (Nat.le_of_ble_eq_true rfl) (Nat.le_of_ble_eq_true rfl) ((by decide +kernel))
set_option maxHeartbeats 4000000 in
set_option maxRecDepth 100000 in
theorem u_count_2  (h : am_H) (c_22 : h[22]? = some (.inr (1, mo 0 0 0 0 (-1) 0 0)))  : am_Me am_Pr none 1 23 0 0 94 [.ref 22, .int 2] h (fun r h' => r = some (.int (am_ct 2))) := by
  refine am_enter (d := hd_Mo_count) rfl (by decide +kernel) (Nat.le_of_ble_eq_true rfl) ?_
  show am_S _ _ _ _ _ _ _ (0, [some (.ref 22), some (.int 2)], [], h, 0, 0) _
  refine am_steps ok_Mo_count 1 (x' := (1, [some (.ref 22), some (.int 2)], [.ref 22], h, 0, 0)) rfl (Nat.le_of_ble_eq_true rfl) (Nat.le_of_ble_eq_true rfl) ?_
  refine ar_get ok_Mo_count rfl c_22 (v := .int 1) rfl (pc' := 4) rfl (Nat.le_of_ble_eq_true rfl) (Nat.le_of_ble_eq_true rfl) ?_
  refine am_steps ok_Mo_count 4 (x' := (99, [some (.ref 22), some (.int 2)], [.ref 22], h, 0, 0)) rfl (Nat.le_of_ble_eq_true rfl) (Nat.le_of_ble_eq_true rfl) ?_
  refine ar_get ok_Mo_count rfl c_22 (v := .int 0) rfl (pc' := 102) rfl (Nat.le_of_ble_eq_true rfl) (Nat.le_of_ble_eq_true rfl) ?_
  exact am_ret ok_Mo_count rfl (Nat.le_of_ble_eq_true rfl) (Nat.le_of_ble_eq_true rfl) ((by decide +kernel))
set_option maxHeartbeats 4000000 in
set_option maxRecDepth 100000 in
theorem u_count_3  (h : am_H) (c_22 : h[22]? = some (.inr (1, mo 0 0 0 0 (-1) 0 0)))  : am_Me am_Pr none 1 23 0 0 94 [.ref 22, .int 3] h (fun r h' => r = some (.int (am_ct 3))) := by
  refine am_enter (d := hd_Mo_count) rfl (by decide +kernel) (Nat.le_of_ble_eq_true rfl) ?_
  show am_S _ _ _ _ _ _ _ (0, [some (.ref 22), some (.int 3)], [], h, 0, 0) _
  refine am_steps ok_Mo_count 1 (x' := (1, [some (.ref 22), some (.int 3)], [.ref 22], h, 0, 0)) rfl (Nat.le_of_ble_eq_true rfl) (Nat.le_of_ble_eq_true rfl) ?_
  refine ar_get ok_Mo_count rfl c_22 (v := .int 1) rfl (pc' := 4) rfl (Nat.le_of_ble_eq_true rfl) (Nat.le_of_ble_eq_true rfl) ?_
  refine am_steps ok_Mo_count 4 (x' := (104, [some (.ref 22), some (.int 3)], [.ref 22], h, 0, 0)) rfl (Nat.le_of_ble_eq_true rfl) (Nat.le_of_ble_eq_true rfl) ?_
  refine ar_get ok_Mo_count rfl c_22 (v := .int 1) rfl (pc' := 107) rfl (Nat.le_of_ble_eq_true rfl) (Nat.le_of_ble_eq_true rfl) ?_
  exact am_ret ok_Mo_count rfl (Nat.le_of_ble_eq_true rfl) (Nat.le_of_ble_eq_true rfl) ((by decide +kernel))
set_option maxHeartbeats 4000000 in
set_option maxRecDepth 100000 in
theorem u_count_4  (h : am_H) (c_22 : h[22]? = some (.inr (1, mo 0 0 0 0 (-1) 0 0)))  : am_Me am_Pr none 1 23 0 0 94 [.ref 22, .int 4] h (fun r h' => r = some (.int (am_ct 4))) := by
  refine am_enter (d := hd_Mo_count) rfl (by decide +kernel) (Nat.le_of_ble_eq_true rfl) ?_
  show am_S _ _ _ _ _ _ _ (0, [some (.ref 22), some (.int 4)], [], h, 0, 0) _
  refine am_steps ok_Mo_count 1 (x' := (1, [some (.ref 22), some (.int 4)], [.ref 22], h, 0, 0)) rfl (Nat.le_of_ble_eq_true rfl) (Nat.le_of_ble_eq_true rfl) ?_
  refine ar_get ok_Mo_count rfl c_22 (v := .int 1) rfl (pc' := 4) rfl (Nat.le_of_ble_eq_true rfl) (Nat.le_of_ble_eq_true rfl) ?_
  refine am_steps ok_Mo_count 4 (x' := (109, [some (.ref 22), some (.int 4)], [.ref 22], h, 0, 0)) rfl (Nat.le_of_ble_eq_true rfl) (Nat.le_of_ble_eq_true rfl) ?_
  refine ar_get ok_Mo_count rfl c_22 (v := .int 0) rfl (pc' := 112) rfl (Nat.le_of_ble_eq_true rfl) (Nat.le_of_ble_eq_true rfl) ?_
  exact am_ret ok_Mo_count rfl (Nat.le_of_ble_eq_true rfl) (Nat.le_of_ble_eq_true rfl) ((by decide +kernel))
set_option maxHeartbeats 4000000 in
set_option maxRecDepth 100000 in
theorem u_count_5  (h : am_H) (c_22 : h[22]? = some (.inr (1, mo 0 0 0 0 (-1) 0 0)))  : am_Me am_Pr none 1 23 0 0 94 [.ref 22, .int 5] h (fun r h' => r = some (.int (am_ct 5))) := by
  refine am_enter (d := hd_Mo_count) rfl (by decide +kernel) (Nat.le_of_ble_eq_true rfl) ?_
  show am_S _ _ _ _ _ _ _ (0, [some (.ref 22), some (.int 5)], [], h, 0, 0) _
  refine am_steps ok_Mo_count 1 (x' := (1, [some (.ref 22), some (.int 5)], [.ref 22], h, 0, 0)) rfl (Nat.le_of_ble_eq_true rfl) (Nat.le_of_ble_eq_true rfl) ?_
  refine ar_get ok_Mo_count rfl c_22 (v := .int 1) rfl (pc' := 4) rfl (Nat.le_of_ble_eq_true rfl) (Nat.le_of_ble_eq_true rfl) ?_
  refine am_steps ok_Mo_count 5 (x' := (115, [some (.ref 22), some (.int 5)], [.int 1, .ref 22], h, 0, 0)) rfl (Nat.le_of_ble_eq_true rfl) (Nat.le_of_ble_eq_true rfl) ?_
  refine ar_cv ok_Mo_count hk_Mo_waiting rfl rfl (As := [.int 1]) (ad := 22) (rest := []) rfl rfl c_22 (by decide) (m_wait1  h c_22 ) (Nat.le_of_ble_eq_true rfl) (Nat.le_of_ble_eq_true rfl) (Nat.le_of_ble_eq_true rfl) (Nat.le_of_ble_eq_true rfl) (pc' := 118) rfl (fun r1 h2 q3 => ?_)
  obtain ⟨rfl, f4, l5⟩ := q3
  show am_S _ _ _ _ _ _ _ (118, [some (.ref 22), some (.int 5)], [.int 0], h2, 0, 0) _
  have c6 := (f4 22 (by decide)).trans c_22
  have fr7 : ∀ q, q ∉ ([] : List Nat) → h2[q]? = h[q]? := fun q hq => f4 q (am_sub (by decide) hq)
  have ln8 : h2.length = h.length := l5
  exact am_ret ok_Mo_count rfl (Nat.le_of_ble_eq_true rfl) (Nat.le_of_ble_eq_true rfl) ((by decide +kernel))
set_option maxHeartbeats 4000000 in
set_option maxRecDepth 100000 in
theorem u_count_6  (h : am_H) (c_22 : h[22]? = some (.inr (1, mo 0 0 0 0 (-1) 0 0)))  : am_Me am_Pr none 1 23 0 0 94 [.ref 22, .int 6] h (fun r h' => r = some (.int (am_ct 6))) := by
  refine am_enter (d := hd_Mo_count) rfl (by decide +kernel) (Nat.le_of_ble_eq_true rfl) ?_
  show am_S _ _ _ _ _ _ _ (0, [some (.ref 22), some (.int 6)], [], h, 0, 0) _
  refine am_steps ok_Mo_count 1 (x' := (1, [some (.ref 22), some (.int 6)], [.ref 22], h, 0, 0)) rfl (Nat.le_of_ble_eq_true rfl) (Nat.le_of_ble_eq_true rfl) ?_
  refine ar_get ok_Mo_count rfl c_22 (v := .int 1) rfl (pc' := 4) rfl (Nat.le_of_ble_eq_true rfl) (Nat.le_of_ble_eq_true rfl) ?_
  refine am_steps ok_Mo_count 5 (x' := (121, [some (.ref 22), some (.int 6)], [.int 0, .ref 22], h, 0, 0)) rfl (Nat.le_of_ble_eq_true rfl) (Nat.le_of_ble_eq_true rfl) ?_
  refine ar_cv ok_Mo_count hk_Mo_waiting rfl rfl (As := [.int 0]) (ad := 22) (rest := []) rfl rfl c_22 (by decide) (m_wait0  h c_22 ) (Nat.le_of_ble_eq_true rfl) (Nat.le_of_ble_eq_true rfl) (Nat.le_of_ble_eq_true rfl) (Nat.le_of_ble_eq_true rfl) (pc' := 124) rfl (fun r1 h2 q3 => ?_)
  obtain ⟨rfl, f4, l5⟩ := q3
  show am_S _ _ _ _ _ _ _ (124, [some (.ref 22), some (.int 6)], [.int 0], h2, 0, 0) _
  have c6 := (f4 22 (by decide)).trans c_22
  have fr7 : ∀ q, q ∉ ([] : List Nat) → h2[q]? = h[q]? := fun q hq => f4 q (am_sub (by decide) hq)
  have ln8 : h2.length = h.length := l5
  exact am_ret ok_Mo_count rfl (Nat.le_of_ble_eq_true rfl) (Nat.le_of_ble_eq_true rfl) ((by decide +kernel))
set_option maxHeartbeats 4000000 in
set_option maxRecDepth 100000 in
theorem u_count_7  (h : am_H) (c_22 : h[22]? = some (.inr (1, mo 0 0 0 0 (-1) 0 0)))  : am_Me am_Pr none 1 23 0 0 94 [.ref 22, .int 7] h (fun r h' => r = some (.int (am_ct 7))) := by
  refine am_enter (d := hd_Mo_count) rfl (by decide +kernel) (Nat.le_of_ble_eq_true rfl) ?_
  show am_S _ _ _ _ _ _ _ (0, [some (.ref 22), some (.int 7)], [], h, 0, 0) _
  refine am_steps ok_Mo_count 1 (x' := (1, [some (.ref 22), some (.int 7)], [.ref 22], h, 0, 0)) rfl (Nat.le_of_ble_eq_true rfl) (Nat.le_of_ble_eq_true rfl) ?_
  refine ar_get ok_Mo_count rfl c_22 (v := .int 1) rfl (pc' := 4) rfl (Nat.le_of_ble_eq_true rfl) (Nat.le_of_ble_eq_true rfl) ?_
  refine am_steps ok_Mo_count 4 (x' := (126, [some (.ref 22), some (.int 7)], [.ref 22], h, 0, 0)) rfl (Nat.le_of_ble_eq_true rfl) (Nat.le_of_ble_eq_true rfl) ?_
  refine ar_get ok_Mo_count rfl c_22 (v := .int 0) rfl (pc' := 129) rfl (Nat.le_of_ble_eq_true rfl) (Nat.le_of_ble_eq_true rfl) ?_
  exact am_ret ok_Mo_count rfl (Nat.le_of_ble_eq_true rfl) (Nat.le_of_ble_eq_true rfl) ((by decide +kernel))
set_option maxHeartbeats 4000000 in
set_option maxRecDepth 100000 in
theorem u_count_8  (h : am_H) (c_22 : h[22]? = some (.inr (1, mo 0 0 0 0 (-1) 0 0)))  : am_Me am_Pr none 1 23 0 0 94 [.ref 22, .int 8] h (fun r h' => r = some (.int (am_ct 8))) := by
  refine am_enter (d := hd_Mo_count) rfl (by decide +kernel) (Nat.le_of_ble_eq_true rfl) ?_
  show am_S _ _ _ _ _ _ _ (0, [some (.ref 22), some (.int 8)], [], h, 0, 0) _
  refine am_steps ok_Mo_count 1 (x' := (1, [some (.ref 22), some (.int 8)], [.ref 22], h, 0, 0)) rfl (Nat.le_of_ble_eq_true rfl) (Nat.le_of_ble_eq_true rfl) ?_
  refine ar_get ok_Mo_count rfl c_22 (v := .int 1) rfl (pc' := 4) rfl (Nat.le_of_ble_eq_true rfl) (Nat.le_of_ble_eq_true rfl) ?_
  refine am_steps ok_Mo_count 4 (x' := (131, [some (.ref 22), some (.int 8)], [.ref 22], h, 0, 0)) rfl (Nat.le_of_ble_eq_true rfl) (Nat.le_of_ble_eq_true rfl) ?_
  refine ar_get ok_Mo_count rfl c_22 (v := .int 0) rfl (pc' := 134) rfl (Nat.le_of_ble_eq_true rfl) (Nat.le_of_ble_eq_true rfl) ?_
  refine am_steps ok_Mo_count 3 (x' := (139, [some (.ref 22), some (.int 8)], [.int 1, .int 500], h, 0, 0)) rfl (Nat.le_of_ble_eq_true rfl) (Nat.le_of_ble_eq_true rfl) ?_
  refine ar_isub ok_Mo_count rfl (w := 499) (by decide +kernel) (pc' := 140) rfl (Nat.le_of_ble_eq_true rfl) (Nat.le_of_ble_eq_true rfl) ?_
  refine am_steps ok_Mo_count 1 (x' := (143, [some (.ref 22), some (.int 8)], [.int 500, .int 499], h, 0, 0)) rfl (Nat.le_of_ble_eq_true rfl) (Nat.le_of_ble_eq_true rfl) ?_
  refine ar_idiv ok_Mo_count rfl (by decide +kernel) (w := 0) (by decide +kernel) (pc' := 144) rfl (Nat.le_of_ble_eq_true rfl) (Nat.le_of_ble_eq_true rfl) ?_
  exact am_ret ok_Mo_count rfl (Nat.le_of_ble_eq_true rfl) (Nat.le_of_ble_eq_true rfl) ((by decide +kernel))
set_option maxHeartbeats 4000000 in
set_option maxRecDepth 100000 in
theorem u_count_9  (h : am_H) (c_22 : h[22]? = some (.inr (1, mo 0 0 0 0 (-1) 0 0)))  : am_Me am_Pr none 1 23 0 0 94 [.ref 22, .int 9] h (fun r h' => r = some (.int (am_ct 9))) := by
  refine am_enter (d := hd_Mo_count) rfl (by decide +kernel) (Nat.le_of_ble_eq_true rfl) ?_
  show am_S _ _ _ _ _ _ _ (0, [some (.ref 22), some (.int 9)], [], h, 0, 0) _
  refine am_steps ok_Mo_count 1 (x' := (1, [some (.ref 22), some (.int 9)], [.ref 22], h, 0, 0)) rfl (Nat.le_of_ble_eq_true rfl) (Nat.le_of_ble_eq_true rfl) ?_
  refine ar_get ok_Mo_count rfl c_22 (v := .int 1) rfl (pc' := 4) rfl (Nat.le_of_ble_eq_true rfl) (Nat.le_of_ble_eq_true rfl) ?_
  refine am_steps ok_Mo_count 4 (x' := (146, [some (.ref 22), some (.int 9)], [.ref 22], h, 0, 0)) rfl (Nat.le_of_ble_eq_true rfl) (Nat.le_of_ble_eq_true rfl) ?_
  refine ar_get ok_Mo_count rfl c_22 (v := .int 0) rfl (pc' := 149) rfl (Nat.le_of_ble_eq_true rfl) (Nat.le_of_ble_eq_true rfl) ?_
  exact am_ret ok_Mo_count rfl (Nat.le_of_ble_eq_true rfl) (Nat.le_of_ble_eq_true rfl) ((by decide +kernel))
set_option maxHeartbeats 4000000 in
set_option maxRecDepth 100000 in
theorem u_count_out (x : Int32) (h : am_H) (c_22 : h[22]? = some (.inr (1, mo 0 0 0 0 (-1) 0 0))) (hx : x.toInt < 0 ∨ 9 < x.toInt) : am_Me am_Pr none 1 23 0 0 94 [.ref 22, .int x] h (fun r h' => r = some (.int (am_ct x))) := by
  refine am_enter (d := hd_Mo_count) rfl (by decide +kernel) (Nat.le_of_ble_eq_true rfl) ?_
  show am_S _ _ _ _ _ _ _ (0, [some (.ref 22), some (.int x)], [], h, 0, 0) _
  refine am_steps ok_Mo_count 1 (x' := (1, [some (.ref 22), some (.int x)], [.ref 22], h, 0, 0)) rfl (Nat.le_of_ble_eq_true rfl) (Nat.le_of_ble_eq_true rfl) ?_
  refine ar_get ok_Mo_count rfl c_22 (v := .int 1) rfl (pc' := 4) rfl (Nat.le_of_ble_eq_true rfl) (Nat.le_of_ble_eq_true rfl) ?_
  refine am_steps ok_Mo_count 2 (x' := (26, [some (.ref 22), some (.int x)], [.int x], h, 0, 0)) rfl (Nat.le_of_ble_eq_true rfl) (Nat.le_of_ble_eq_true rfl) ?_
  refine ar_tsw ok_Mo_count rfl hx (t := 150) rfl (Nat.le_of_ble_eq_true rfl) (Nat.le_of_ble_eq_true rfl) ?_
  refine am_steps ok_Mo_count 1 (x' := (151, [some (.ref 22), some (.int x)], [.int (-1)], h, 0, 0)) rfl (Nat.le_of_ble_eq_true rfl) (Nat.le_of_ble_eq_true rfl) ?_
  exact am_ret ok_Mo_count rfl (Nat.le_of_ble_eq_true rfl) (Nat.le_of_ble_eq_true rfl) (by rw [am_ct_out hx])
theorem u_count (x : Int32) (h : am_H) (c_22 : h[22]? = some (.inr (1, mo 0 0 0 0 (-1) 0 0))) : am_Me am_Pr none 1 23 0 0 94 [.ref 22, .int x] h (fun r h' => r = some (.int (am_ct x))) := by
  rcases am_sw10 x with rfl | rfl | rfl | rfl | rfl | rfl | rfl | rfl | rfl | rfl | hx
  · exact u_count_0 h c_22
  · exact u_count_1 h c_22
  · exact u_count_2 h c_22
  · exact u_count_3 h c_22
  · exact u_count_4 h c_22
  · exact u_count_5 h c_22
  · exact u_count_6 h c_22
  · exact u_count_7 h c_22
  · exact u_count_8 h c_22
  · exact u_count_9 h c_22
  · exact u_count_out x h c_22 hx
