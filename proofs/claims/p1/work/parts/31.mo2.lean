set_option maxHeartbeats 4000000 in
set_option maxRecDepth 100000 in
theorem m_silence (dy : Int32) (tk : Int32) (h : am_H) (c_22 : h[22]? = some (.inr (1, mo 0 0 dy tk (-1) 0 0)))  : am_Me am_Pr none 0 0 0 0 21 [.ref 22] h (fun r h' => r = none ∧ h'[22]? = some (.inr (1, mo 0 0 dy tk (-1) 0 0)) ∧ (∀ q, q ∉ ([22] : List Nat) → h'[q]? = h[q]?) ∧ h'.length = h.length) := by
  refine am_enter (d := hd_Mo_silence) rfl (by decide +kernel) (Nat.le_of_ble_eq_true rfl) ?_
  show am_S _ _ _ _ _ _ _ (0, [some (.ref 22)], [], h, 0, 0) _
  refine am_steps ok_Mo_silence 2 (x' := (2, [some (.ref 22)], [.int 0, .ref 22], h, 0, 0)) rfl (Nat.le_of_ble_eq_true rfl) (Nat.le_of_ble_eq_true rfl) ?_
  refine ar_put ok_Mo_silence rfl c_22 (Nat.le_of_ble_eq_true rfl) rfl (fs' := [.ref 23, .int 0, .ref 24, .int 0, .int 0, .int 0, .ref 25, .int 0, .int 0, .ref 26, .int 1, .ref 27, .ref 28, .ref 29, .ref 30, .int 0, .int (-1), .ref 31, .ref 32, .ref 33, .ref 34, .ref 35, .ref 36, .ref 37, .ref 38, .int 0, .ref 39, .ref 40, .ref 41, .ref 42, .int 0, .int 0, .int 0, .ref 43, .ref 44, .ref 45, .ref 46, .ref 47, .ref 48, .ref 49, .ref 50, .ref 51, .ref 52, .ref 53, .ref 54, .long 0, .ref 55, .ref 56, .int 0, .ref 57, .ref 58, .ref 59, .long 0, .int 0, .int 0, .int dy, .int tk, .int 1, .int (-1), .int 0, .int 0, .int 0]) rfl (pc' := 5) rfl (Nat.le_of_ble_eq_true rfl) (Nat.le_of_ble_eq_true rfl) (fun h1 e2 e3 e4 => ?_)
  have fr5 : ∀ q, q ∉ ([22] : List Nat) → h1[q]? = h[q]? := fun q hq => e3 q (fun z => hq (by rw [z]; decide))
  have ln6 : h1.length = h.length := e4
  refine am_steps ok_Mo_silence 2 (x' := (7, [some (.ref 22)], [.int 0, .ref 22], h1, 0, 0)) rfl (Nat.le_of_ble_eq_true rfl) (Nat.le_of_ble_eq_true rfl) ?_
  refine ar_put ok_Mo_silence rfl e2 (Nat.le_of_ble_eq_true rfl) rfl (fs' := [.ref 23, .int 0, .ref 24, .int 0, .int 0, .int 0, .ref 25, .int 0, .int 0, .ref 26, .int 1, .ref 27, .ref 28, .ref 29, .ref 30, .int 0, .int (-1), .ref 31, .ref 32, .ref 33, .ref 34, .ref 35, .ref 36, .ref 37, .ref 38, .int 0, .ref 39, .ref 40, .ref 41, .ref 42, .int 0, .int 0, .int 0, .ref 43, .ref 44, .ref 45, .ref 46, .ref 47, .ref 48, .ref 49, .ref 50, .ref 51, .ref 52, .ref 53, .ref 54, .long 0, .ref 55, .ref 56, .int 0, .ref 57, .ref 58, .ref 59, .long 0, .int 0, .int 0, .int dy, .int tk, .int 1, .int (-1), .int 0, .int 0, .int 0]) rfl (pc' := 10) rfl (Nat.le_of_ble_eq_true rfl) (Nat.le_of_ble_eq_true rfl) (fun h7 e8 e9 e10 => ?_)
  have fr11 : ∀ q, q ∉ ([22] : List Nat) → h7[q]? = h[q]? := fun q hq => (e9 q (fun z => hq (by rw [z]; decide))).trans (fr5 q (am_sub (by decide) hq))
  have ln12 : h7.length = h.length := e10.trans ln6
  exact am_ret ok_Mo_silence rfl (Nat.le_of_ble_eq_true rfl) (Nat.le_of_ble_eq_true rfl) ⟨rfl, e8, fun q hq => fr11 q (am_sub (by decide) hq), ln12⟩
set_option maxHeartbeats 4000000 in
set_option maxRecDepth 100000 in
theorem m_write (dy : Int32) (tk : Int32) (bl : Int32) (jo : Int32) (h : am_H) (c_22 : h[22]? = some (.inr (1, mo 0 0 dy tk (-1) bl jo)))  : am_Me am_Pr none 2 40 0 0 87 [.ref 22] h (fun r h' => r = some (.int 1) ∧ h'[22]? = some (.inr (1, mo 0 0 dy tk (-1) (bl + 1) jo)) ∧ (∀ q, q ∉ ([22] : List Nat) → h'[q]? = h[q]?) ∧ h'.length = h.length) := by
  refine am_enter (d := hd_Mo_write) rfl (by decide +kernel) (Nat.le_of_ble_eq_true rfl) ?_
  show am_S _ _ _ _ _ _ _ (0, [some (.ref 22)], [], h, 0, 0) _
  refine am_steps ok_Mo_write 1 (x' := (1, [some (.ref 22)], [.ref 22], h, 0, 0)) rfl (Nat.le_of_ble_eq_true rfl) (Nat.le_of_ble_eq_true rfl) ?_
  refine ar_get ok_Mo_write rfl c_22 (v := .int (-1)) rfl (pc' := 4) rfl (Nat.le_of_ble_eq_true rfl) (Nat.le_of_ble_eq_true rfl) ?_
  refine am_steps ok_Mo_write 3 (x' := (14, [some (.ref 22)], [.ref 22, .ref 22], h, 0, 0)) rfl (Nat.le_of_ble_eq_true rfl) (Nat.le_of_ble_eq_true rfl) ?_
  refine ar_get ok_Mo_write rfl c_22 (v := .int (-1)) rfl (pc' := 17) rfl (Nat.le_of_ble_eq_true rfl) (Nat.le_of_ble_eq_true rfl) ?_
  refine am_steps ok_Mo_write 1 (x' := (18, [some (.ref 22)], [.ref 22, .int (-1), .ref 22], h, 0, 0)) rfl (Nat.le_of_ble_eq_true rfl) (Nat.le_of_ble_eq_true rfl) ?_
  refine ar_get ok_Mo_write rfl c_22 (v := .int (-1)) rfl (pc' := 21) rfl (Nat.le_of_ble_eq_true rfl) (Nat.le_of_ble_eq_true rfl) ?_
  refine am_steps ok_Mo_write 2 (x' := (29, [some (.ref 22)], [.int 0, .int (-1), .ref 22], h, 0, 0)) rfl (Nat.le_of_ble_eq_true rfl) (Nat.le_of_ble_eq_true rfl) ?_
  refine ar_isub ok_Mo_write rfl (w := (-1)) (by decide +kernel) (pc' := 30) rfl (Nat.le_of_ble_eq_true rfl) (Nat.le_of_ble_eq_true rfl) ?_
  refine ar_put ok_Mo_write rfl c_22 (Nat.le_of_ble_eq_true rfl) rfl (fs' := [.ref 23, .int 0, .ref 24, .int 0, .int 0, .int 0, .ref 25, .int 0, .int 0, .ref 26, .int 1, .ref 27, .ref 28, .ref 29, .ref 30, .int 0, .int (-1), .ref 31, .ref 32, .ref 33, .ref 34, .ref 35, .ref 36, .ref 37, .ref 38, .int 0, .ref 39, .ref 40, .ref 41, .ref 42, .int 0, .int 0, .int 0, .ref 43, .ref 44, .ref 45, .ref 46, .ref 47, .ref 48, .ref 49, .ref 50, .ref 51, .ref 52, .ref 53, .ref 54, .long 0, .ref 55, .ref 56, .int 0, .ref 57, .ref 58, .ref 59, .long 0, .int 0, .int 0, .int dy, .int tk, .int 1, .int (-1), .int bl, .int jo, .int 0]) rfl (pc' := 33) rfl (Nat.le_of_ble_eq_true rfl) (Nat.le_of_ble_eq_true rfl) (fun h1 e2 e3 e4 => ?_)
  have fr5 : ∀ q, q ∉ ([22] : List Nat) → h1[q]? = h[q]? := fun q hq => e3 q (fun z => hq (by rw [z]; decide))
  have ln6 : h1.length = h.length := e4
  refine am_steps ok_Mo_write 2 (x' := (35, [some (.ref 22)], [.ref 22, .ref 22], h1, 0, 0)) rfl (Nat.le_of_ble_eq_true rfl) (Nat.le_of_ble_eq_true rfl) ?_
  refine ar_get ok_Mo_write rfl e2 (v := .int bl) rfl (pc' := 38) rfl (Nat.le_of_ble_eq_true rfl) (Nat.le_of_ble_eq_true rfl) ?_
  refine am_steps ok_Mo_write 2 (x' := (40, [some (.ref 22)], [.int (bl + 1), .ref 22], h1, 0, 0)) rfl (Nat.le_of_ble_eq_true rfl) (Nat.le_of_ble_eq_true rfl) ?_
  refine ar_put ok_Mo_write rfl e2 (Nat.le_of_ble_eq_true rfl) rfl (fs' := [.ref 23, .int 0, .ref 24, .int 0, .int 0, .int 0, .ref 25, .int 0, .int 0, .ref 26, .int 1, .ref 27, .ref 28, .ref 29, .ref 30, .int 0, .int (-1), .ref 31, .ref 32, .ref 33, .ref 34, .ref 35, .ref 36, .ref 37, .ref 38, .int 0, .ref 39, .ref 40, .ref 41, .ref 42, .int 0, .int 0, .int 0, .ref 43, .ref 44, .ref 45, .ref 46, .ref 47, .ref 48, .ref 49, .ref 50, .ref 51, .ref 52, .ref 53, .ref 54, .long 0, .ref 55, .ref 56, .int 0, .ref 57, .ref 58, .ref 59, .long 0, .int 0, .int 0, .int dy, .int tk, .int 1, .int (-1), .int (bl + 1), .int jo, .int 0]) rfl (pc' := 43) rfl (Nat.le_of_ble_eq_true rfl) (Nat.le_of_ble_eq_true rfl) (fun h7 e8 e9 e10 => ?_)
  have fr11 : ∀ q, q ∉ ([22] : List Nat) → h7[q]? = h[q]? := fun q hq => (e9 q (fun z => hq (by rw [z]; decide))).trans (fr5 q (am_sub (by decide) hq))
  have ln12 : h7.length = h.length := e10.trans ln6
  refine am_steps ok_Mo_write 1 (x' := (44, [some (.ref 22)], [.int 1], h7, 0, 0)) rfl (Nat.le_of_ble_eq_true rfl) (Nat.le_of_ble_eq_true rfl) ?_
  exact am_ret ok_Mo_write rfl (Nat.le_of_ble_eq_true rfl) (Nat.le_of_ble_eq_true rfl) ⟨rfl, e8, fun q hq => fr11 q (am_sub (by decide) hq), ln12⟩
set_option maxHeartbeats 4000000 in
set_option maxRecDepth 100000 in
theorem m_record (dy : Int32) (tk : Int32) (h : am_H) (c_22 : h[22]? = some (.inr (1, mo 0 0 dy tk (-1) 0 0)))  : am_Me am_Pr none 3 60 0 0 88 [.ref 22, .int 8] h (fun r h' => r = some (.int 1) ∧ h'[22]? = some (.inr (1, mo 0 0 dy tk (-1) 1 8)) ∧ (∀ q, q ∉ ([22] : List Nat) → h'[q]? = h[q]?) ∧ h'.length = h.length) := by
  refine am_enter (d := hd_Mo_record) rfl (by decide +kernel) (Nat.le_of_ble_eq_true rfl) ?_
  show am_S _ _ _ _ _ _ _ (0, [some (.ref 22), some (.int 8), none], [], h, 0, 0) _
  refine am_steps ok_Mo_record 1 (x' := (1, [some (.ref 22), some (.int 8), none], [.ref 22], h, 0, 0)) rfl (Nat.le_of_ble_eq_true rfl) (Nat.le_of_ble_eq_true rfl) ?_
  refine ar_get ok_Mo_record rfl c_22 (v := .int 0) rfl (pc' := 4) rfl (Nat.le_of_ble_eq_true rfl) (Nat.le_of_ble_eq_true rfl) ?_
  refine am_steps ok_Mo_record 1 (x' := (7, [some (.ref 22), some (.int 8), none], [.int 500, .int 0], h, 0, 0)) rfl (Nat.le_of_ble_eq_true rfl) (Nat.le_of_ble_eq_true rfl) ?_
  refine ar_idiv ok_Mo_record rfl (by decide +kernel) (w := 0) (by decide +kernel) (pc' := 8) rfl (Nat.le_of_ble_eq_true rfl) (Nat.le_of_ble_eq_true rfl) ?_
  refine am_steps ok_Mo_record 3 (x' := (11, [some (.ref 22), some (.int 8), some (.int 0)], [.ref 22, .int 0], h, 0, 0)) rfl (Nat.le_of_ble_eq_true rfl) (Nat.le_of_ble_eq_true rfl) ?_
  refine ar_get ok_Mo_record rfl c_22 (v := .int 0) rfl (pc' := 14) rfl (Nat.le_of_ble_eq_true rfl) (Nat.le_of_ble_eq_true rfl) ?_
  refine am_steps ok_Mo_record 3 (x' := (17, [some (.ref 22), some (.int 8), some (.int 0)], [.int 1, .int 8, .int 0], h, 0, 0)) rfl (Nat.le_of_ble_eq_true rfl) (Nat.le_of_ble_eq_true rfl) ?_
  refine ar_isub ok_Mo_record rfl (w := 7) (by decide +kernel) (pc' := 18) rfl (Nat.le_of_ble_eq_true rfl) (Nat.le_of_ble_eq_true rfl) ?_
  refine am_steps ok_Mo_record 1 (x' := (21, [some (.ref 22), some (.int 8), some (.int 0)], [.int 500, .int 7, .int 0], h, 0, 0)) rfl (Nat.le_of_ble_eq_true rfl) (Nat.le_of_ble_eq_true rfl) ?_
  refine ar_idiv ok_Mo_record rfl (by decide +kernel) (w := 0) (by decide +kernel) (pc' := 22) rfl (Nat.le_of_ble_eq_true rfl) (Nat.le_of_ble_eq_true rfl) ?_
  refine am_steps ok_Mo_record 2 (x' := (26, [some (.ref 22), some (.int 8), some (.int 0)], [.ref 22], h, 0, 0)) rfl (Nat.le_of_ble_eq_true rfl) (Nat.le_of_ble_eq_true rfl) ?_
  refine ar_cv ok_Mo_record hk_Mo_write rfl rfl (As := []) (ad := 22) (rest := []) rfl rfl c_22 (by decide) (m_write dy tk 0 0 h c_22 ) (Nat.le_of_ble_eq_true rfl) (Nat.le_of_ble_eq_true rfl) (Nat.le_of_ble_eq_true rfl) (Nat.le_of_ble_eq_true rfl) (pc' := 29) rfl (fun r1 h2 q3 => ?_)
  obtain ⟨rfl, e4, f5, l6⟩ := q3
  show am_S _ _ _ _ _ _ _ (29, [some (.ref 22), some (.int 8), some (.int 0)], [.int 1], h2, 0, 0) _
  have fr7 : ∀ q, q ∉ ([22] : List Nat) → h2[q]? = h[q]? := fun q hq => f5 q (am_sub (by decide) hq)
  have ln8 : h2.length = h.length := l6
  refine am_steps ok_Mo_record 5 (x' := (11, [some (.ref 22), some (.int 8), some (.int 1)], [.ref 22, .int 1], h2, 0, 0)) rfl (Nat.le_of_ble_eq_true rfl) (Nat.le_of_ble_eq_true rfl) ?_
  refine ar_get ok_Mo_record rfl e4 (v := .int 0) rfl (pc' := 14) rfl (Nat.le_of_ble_eq_true rfl) (Nat.le_of_ble_eq_true rfl) ?_
  refine am_steps ok_Mo_record 3 (x' := (17, [some (.ref 22), some (.int 8), some (.int 1)], [.int 1, .int 8, .int 1], h2, 0, 0)) rfl (Nat.le_of_ble_eq_true rfl) (Nat.le_of_ble_eq_true rfl) ?_
  refine ar_isub ok_Mo_record rfl (w := 7) (by decide +kernel) (pc' := 18) rfl (Nat.le_of_ble_eq_true rfl) (Nat.le_of_ble_eq_true rfl) ?_
  refine am_steps ok_Mo_record 1 (x' := (21, [some (.ref 22), some (.int 8), some (.int 1)], [.int 500, .int 7, .int 1], h2, 0, 0)) rfl (Nat.le_of_ble_eq_true rfl) (Nat.le_of_ble_eq_true rfl) ?_
  refine ar_idiv ok_Mo_record rfl (by decide +kernel) (w := 0) (by decide +kernel) (pc' := 22) rfl (Nat.le_of_ble_eq_true rfl) (Nat.le_of_ble_eq_true rfl) ?_
  refine am_steps ok_Mo_record 3 (x' := (42, [some (.ref 22), some (.int 8), some (.int 1)], [.ref 22, .ref 22], h2, 0, 0)) rfl (Nat.le_of_ble_eq_true rfl) (Nat.le_of_ble_eq_true rfl) ?_
  refine ar_get ok_Mo_record rfl e4 (v := .int 0) rfl (pc' := 45) rfl (Nat.le_of_ble_eq_true rfl) (Nat.le_of_ble_eq_true rfl) ?_
  refine am_steps ok_Mo_record 2 (x' := (47, [some (.ref 22), some (.int 8), some (.int 1)], [.int 8, .ref 22], h2, 0, 0)) rfl (Nat.le_of_ble_eq_true rfl) (Nat.le_of_ble_eq_true rfl) ?_
  refine ar_put ok_Mo_record rfl e4 (Nat.le_of_ble_eq_true rfl) rfl (fs' := [.ref 23, .int 0, .ref 24, .int 0, .int 0, .int 0, .ref 25, .int 0, .int 0, .ref 26, .int 1, .ref 27, .ref 28, .ref 29, .ref 30, .int 0, .int (-1), .ref 31, .ref 32, .ref 33, .ref 34, .ref 35, .ref 36, .ref 37, .ref 38, .int 0, .ref 39, .ref 40, .ref 41, .ref 42, .int 0, .int 0, .int 0, .ref 43, .ref 44, .ref 45, .ref 46, .ref 47, .ref 48, .ref 49, .ref 50, .ref 51, .ref 52, .ref 53, .ref 54, .long 0, .ref 55, .ref 56, .int 0, .ref 57, .ref 58, .ref 59, .long 0, .int 0, .int 0, .int dy, .int tk, .int 1, .int (-1), .int 1, .int 8, .int 0]) rfl (pc' := 50) rfl (Nat.le_of_ble_eq_true rfl) (Nat.le_of_ble_eq_true rfl) (fun h9 e10 e11 e12 => ?_)
  have fr13 : ∀ q, q ∉ ([22] : List Nat) → h9[q]? = h[q]? := fun q hq => (e11 q (fun z => hq (by rw [z]; decide))).trans (fr7 q (am_sub (by decide) hq))
  have ln14 : h9.length = h.length := e12.trans ln8
  refine am_steps ok_Mo_record 1 (x' := (51, [some (.ref 22), some (.int 8), some (.int 1)], [.int 1], h9, 0, 0)) rfl (Nat.le_of_ble_eq_true rfl) (Nat.le_of_ble_eq_true rfl) ?_
  exact am_ret ok_Mo_record rfl (Nat.le_of_ble_eq_true rfl) (Nat.le_of_ble_eq_true rfl) ⟨rfl, e10, fun q hq => fr13 q (am_sub (by decide) hq), ln14⟩
set_option maxHeartbeats 4000000 in
set_option maxRecDepth 100000 in
theorem m_sort (dy : Int32) (tk : Int32) (h : am_H) (c_22 : h[22]? = some (.inr (1, mo 0 0 dy tk (-1) 1 8)))  : am_Me am_Pr none 1 22 0 0 59 [.ref 22] h (fun r h' => r = none ∧ h'[22]? = some (.inr (1, mo 0 0 dy tk (-1) 1 8)) ∧ (∀ q, q ∉ ([22] : List Nat) → h'[q]? = h[q]?) ∧ h'.length = h.length) := by
  refine am_enter (d := hd_Mo_sort) rfl (by decide +kernel) (Nat.le_of_ble_eq_true rfl) ?_
  show am_S _ _ _ _ _ _ _ (0, [some (.ref 22), none, none], [], h, 0, 0) _
  refine am_steps ok_Mo_sort 2 (x' := (2, [some (.ref 22), none, none], [.int 0, .ref 22], h, 0, 0)) rfl (Nat.le_of_ble_eq_true rfl) (Nat.le_of_ble_eq_true rfl) ?_
  refine ar_put ok_Mo_sort rfl c_22 (Nat.le_of_ble_eq_true rfl) rfl (fs' := [.ref 23, .int 0, .ref 24, .int 0, .int 0, .int 0, .ref 25, .int 0, .int 0, .ref 26, .int 1, .ref 27, .ref 28, .ref 29, .ref 30, .int 0, .int (-1), .ref 31, .ref 32, .ref 33, .ref 34, .ref 35, .ref 36, .ref 37, .ref 38, .int 0, .ref 39, .ref 40, .ref 41, .ref 42, .int 0, .int 0, .int 0, .ref 43, .ref 44, .ref 45, .ref 46, .ref 47, .ref 48, .ref 49, .ref 50, .ref 51, .ref 52, .ref 53, .ref 54, .long 0, .ref 55, .ref 56, .int 0, .ref 57, .ref 58, .ref 59, .long 0, .int 0, .int 0, .int dy, .int tk, .int 1, .int (-1), .int 1, .int 8, .int 0]) rfl (pc' := 5) rfl (Nat.le_of_ble_eq_true rfl) (Nat.le_of_ble_eq_true rfl) (fun h1 e2 e3 e4 => ?_)
  have fr5 : ∀ q, q ∉ ([22] : List Nat) → h1[q]? = h[q]? := fun q hq => e3 q (fun z => hq (by rw [z]; decide))
  have ln6 : h1.length = h.length := e4
  refine am_steps ok_Mo_sort 4 (x' := (9, [some (.ref 22), some (.int 0), none], [.ref 22, .int 0], h1, 0, 0)) rfl (Nat.le_of_ble_eq_true rfl) (Nat.le_of_ble_eq_true rfl) ?_
  refine ar_get ok_Mo_sort rfl e2 (v := .int 0) rfl (pc' := 12) rfl (Nat.le_of_ble_eq_true rfl) (Nat.le_of_ble_eq_true rfl) ?_
  refine am_steps ok_Mo_sort 1 (x' := (95, [some (.ref 22), some (.int 0), none], [], h1, 0, 0)) rfl (Nat.le_of_ble_eq_true rfl) (Nat.le_of_ble_eq_true rfl) ?_
  exact am_ret ok_Mo_sort rfl (Nat.le_of_ble_eq_true rfl) (Nat.le_of_ble_eq_true rfl) ⟨rfl, e2, fun q hq => fr5 q (am_sub (by decide) hq), ln6⟩
set_option maxHeartbeats 4000000 in
set_option maxRecDepth 100000 in
theorem m_untouch (dy : Int32) (tk : Int32) (h : am_H) (c_22 : h[22]? = some (.inr (1, mo 0 0 dy tk (-1) 1 8)))  : am_Me am_Pr none 0 0 0 0 62 [.ref 22] h (fun r h' => r = none ∧ h'[22]? = some (.inr (1, mo 0 0 dy tk (-1) 1 8)) ∧ (∀ q, q ∉ ([22] : List Nat) → h'[q]? = h[q]?) ∧ h'.length = h.length) := by
  refine am_enter (d := hd_Mo_untouch) rfl (by decide +kernel) (Nat.le_of_ble_eq_true rfl) ?_
  show am_S _ _ _ _ _ _ _ (0, [some (.ref 22), none], [], h, 0, 0) _
  refine am_steps ok_Mo_untouch 4 (x' := (4, [some (.ref 22), some (.int 0)], [.ref 22, .int 0], h, 0, 0)) rfl (Nat.le_of_ble_eq_true rfl) (Nat.le_of_ble_eq_true rfl) ?_
  refine ar_get ok_Mo_untouch rfl c_22 (v := .int 0) rfl (pc' := 7) rfl (Nat.le_of_ble_eq_true rfl) (Nat.le_of_ble_eq_true rfl) ?_
  refine am_steps ok_Mo_untouch 3 (x' := (42, [some (.ref 22), some (.int 0)], [.int 0, .ref 22], h, 0, 0)) rfl (Nat.le_of_ble_eq_true rfl) (Nat.le_of_ble_eq_true rfl) ?_
  refine ar_put ok_Mo_untouch rfl c_22 (Nat.le_of_ble_eq_true rfl) rfl (fs' := [.ref 23, .int 0, .ref 24, .int 0, .int 0, .int 0, .ref 25, .int 0, .int 0, .ref 26, .int 1, .ref 27, .ref 28, .ref 29, .ref 30, .int 0, .int (-1), .ref 31, .ref 32, .ref 33, .ref 34, .ref 35, .ref 36, .ref 37, .ref 38, .int 0, .ref 39, .ref 40, .ref 41, .ref 42, .int 0, .int 0, .int 0, .ref 43, .ref 44, .ref 45, .ref 46, .ref 47, .ref 48, .ref 49, .ref 50, .ref 51, .ref 52, .ref 53, .ref 54, .long 0, .ref 55, .ref 56, .int 0, .ref 57, .ref 58, .ref 59, .long 0, .int 0, .int 0, .int dy, .int tk, .int 1, .int (-1), .int 1, .int 8, .int 0]) rfl (pc' := 45) rfl (Nat.le_of_ble_eq_true rfl) (Nat.le_of_ble_eq_true rfl) (fun h1 e2 e3 e4 => ?_)
  have fr5 : ∀ q, q ∉ ([22] : List Nat) → h1[q]? = h[q]? := fun q hq => e3 q (fun z => hq (by rw [z]; decide))
  have ln6 : h1.length = h.length := e4
  exact am_ret ok_Mo_untouch rfl (Nat.le_of_ble_eq_true rfl) (Nat.le_of_ble_eq_true rfl) ⟨rfl, e2, fun q hq => fr5 q (am_sub (by decide) hq), ln6⟩
set_option maxHeartbeats 4000000 in
set_option maxRecDepth 100000 in
theorem m_close (dy : Int32) (tk : Int32) (h : am_H) (c_22 : h[22]? = some (.inr (1, mo 0 0 dy tk (-1) 1 8)))  : am_Me am_Pr none 3 71 0 0 69 [.ref 22] h (fun r h' => r = none ∧ h'[22]? = some (.inr (1, mo 0 0 dy tk (-1) 1 8)) ∧ (∀ q, q ∉ ([22] : List Nat) → h'[q]? = h[q]?) ∧ h'.length = h.length) := by
  refine am_enter (d := hd_Mo_close) rfl (by decide +kernel) (Nat.le_of_ble_eq_true rfl) ?_
  show am_S _ _ _ _ _ _ _ (0, [some (.ref 22), none, none, none, none], [], h, 0, 0) _
  refine am_steps ok_Mo_close 4 (x' := (4, [some (.ref 22), some (.int 0), none, none, none], [.ref 22, .int 0], h, 0, 0)) rfl (Nat.le_of_ble_eq_true rfl) (Nat.le_of_ble_eq_true rfl) ?_
  refine ar_get ok_Mo_close rfl c_22 (v := .int 0) rfl (pc' := 7) rfl (Nat.le_of_ble_eq_true rfl) (Nat.le_of_ble_eq_true rfl) ?_
  refine am_steps ok_Mo_close 2 (x' := (98, [some (.ref 22), some (.int 0), none, none, none], [.ref 22], h, 0, 0)) rfl (Nat.le_of_ble_eq_true rfl) (Nat.le_of_ble_eq_true rfl) ?_
  refine ar_cv ok_Mo_close hk_Mo_untouch rfl rfl (As := []) (ad := 22) (rest := []) rfl rfl c_22 (by decide) (m_untouch dy tk h c_22 ) (Nat.le_of_ble_eq_true rfl) (Nat.le_of_ble_eq_true rfl) (Nat.le_of_ble_eq_true rfl) (Nat.le_of_ble_eq_true rfl) (pc' := 101) rfl (fun r1 h2 q3 => ?_)
  obtain ⟨rfl, e4, f5, l6⟩ := q3
  show am_S _ _ _ _ _ _ _ (101, [some (.ref 22), some (.int 0), none, none, none], [], h2, 0, 0) _
  have fr7 : ∀ q, q ∉ ([22] : List Nat) → h2[q]? = h[q]? := fun q hq => f5 q (am_sub (by decide) hq)
  have ln8 : h2.length = h.length := l6
  exact am_ret ok_Mo_close rfl (Nat.le_of_ble_eq_true rfl) (Nat.le_of_ble_eq_true rfl) ⟨rfl, e4, fun q hq => fr7 q (am_sub (by decide) hq), ln8⟩
set_option maxHeartbeats 4000000 in
set_option maxRecDepth 100000 in
theorem m_short0 (dy : Int32) (tk : Int32) (h : am_H) (c_22 : h[22]? = some (.inr (1, mo 0 0 dy tk (-1) 1 8)))  : am_Me am_Pr none 3 79 0 0 70 [.ref 22] h (fun r h' => r = some (.int (-1)) ∧ h'[22]? = some (.inr (1, mo 0 0 dy tk (-1) 1 8)) ∧ (∀ q, q ∉ ([22] : List Nat) → h'[q]? = h[q]?) ∧ h'.length = h.length) := by
  refine am_enter (d := hd_Mo_short0) rfl (by decide +kernel) (Nat.le_of_ble_eq_true rfl) ?_
  show am_S _ _ _ _ _ _ _ (0, [some (.ref 22), none, none, none, none], [], h, 0, 0) _
  refine am_steps ok_Mo_short0 6 (x' := (6, [some (.ref 22), some (.int (-1)), some (.int 0), none, none], [.ref 22, .int 0], h, 0, 0)) rfl (Nat.le_of_ble_eq_true rfl) (Nat.le_of_ble_eq_true rfl) ?_
  refine ar_get ok_Mo_short0 rfl c_22 (v := .int 0) rfl (pc' := 9) rfl (Nat.le_of_ble_eq_true rfl) (Nat.le_of_ble_eq_true rfl) ?_
  refine am_steps ok_Mo_short0 5 (x' := (108, [some (.ref 22), some (.int (-1)), some (.int 0), none, none], [.ref 22, .int 0], h, 0, 0)) rfl (Nat.le_of_ble_eq_true rfl) (Nat.le_of_ble_eq_true rfl) ?_
  refine ar_get ok_Mo_short0 rfl c_22 (v := .int 0) rfl (pc' := 111) rfl (Nat.le_of_ble_eq_true rfl) (Nat.le_of_ble_eq_true rfl) ?_
  refine am_steps ok_Mo_short0 2 (x' := (168, [some (.ref 22), some (.int (-1)), some (.int 0), none, none], [.ref 22], h, 0, 0)) rfl (Nat.le_of_ble_eq_true rfl) (Nat.le_of_ble_eq_true rfl) ?_
  refine ar_cv ok_Mo_short0 hk_Mo_untouch rfl rfl (As := []) (ad := 22) (rest := []) rfl rfl c_22 (by decide) (m_untouch dy tk h c_22 ) (Nat.le_of_ble_eq_true rfl) (Nat.le_of_ble_eq_true rfl) (Nat.le_of_ble_eq_true rfl) (Nat.le_of_ble_eq_true rfl) (pc' := 171) rfl (fun r1 h2 q3 => ?_)
  obtain ⟨rfl, e4, f5, l6⟩ := q3
  show am_S _ _ _ _ _ _ _ (171, [some (.ref 22), some (.int (-1)), some (.int 0), none, none], [], h2, 0, 0) _
  have fr7 : ∀ q, q ∉ ([22] : List Nat) → h2[q]? = h[q]? := fun q hq => f5 q (am_sub (by decide) hq)
  have ln8 : h2.length = h.length := l6
  refine am_steps ok_Mo_short0 1 (x' := (172, [some (.ref 22), some (.int (-1)), some (.int 0), none, none], [.int (-1)], h2, 0, 0)) rfl (Nat.le_of_ble_eq_true rfl) (Nat.le_of_ble_eq_true rfl) ?_
  exact am_ret ok_Mo_short0 rfl (Nat.le_of_ble_eq_true rfl) (Nat.le_of_ble_eq_true rfl) ⟨rfl, e4, fun q hq => fr7 q (am_sub (by decide) hq), ln8⟩
set_option maxHeartbeats 4000000 in
set_option maxRecDepth 100000 in
theorem m_firstAble (dy : Int32) (tk : Int32) (h : am_H) (c_22 : h[22]? = some (.inr (1, mo 0 0 dy tk (-1) 1 8)))  : am_Me am_Pr none 3 79 0 0 64 [.ref 22] h (fun r h' => r = some (.int (-1)) ∧ h'[22]? = some (.inr (1, mo 0 0 dy tk (-1) 1 8)) ∧ (∀ q, q ∉ ([22] : List Nat) → h'[q]? = h[q]?) ∧ h'.length = h.length) := by
  refine am_enter (d := hd_Mo_firstAble) rfl (by decide +kernel) (Nat.le_of_ble_eq_true rfl) ?_
  show am_S _ _ _ _ _ _ _ (0, [some (.ref 22), none, none, none, none, none, none, none, none], [], h, 0, 0) _
  refine am_steps ok_Mo_firstAble 1 (x' := (1, [some (.ref 22), none, none, none, none, none, none, none, none], [.ref 22], h, 0, 0)) rfl (Nat.le_of_ble_eq_true rfl) (Nat.le_of_ble_eq_true rfl) ?_
  refine ar_cv ok_Mo_firstAble hk_Mo_sort rfl rfl (As := []) (ad := 22) (rest := []) rfl rfl c_22 (by decide) (m_sort dy tk h c_22 ) (Nat.le_of_ble_eq_true rfl) (Nat.le_of_ble_eq_true rfl) (Nat.le_of_ble_eq_true rfl) (Nat.le_of_ble_eq_true rfl) (pc' := 4) rfl (fun r1 h2 q3 => ?_)
  obtain ⟨rfl, e4, f5, l6⟩ := q3
  show am_S _ _ _ _ _ _ _ (4, [some (.ref 22), none, none, none, none, none, none, none, none], [], h2, 0, 0) _
  have fr7 : ∀ q, q ∉ ([22] : List Nat) → h2[q]? = h[q]? := fun q hq => f5 q (am_sub (by decide) hq)
  have ln8 : h2.length = h.length := l6
  refine am_steps ok_Mo_firstAble 6 (x' := (10, [some (.ref 22), some (.int (-1)), some (.int 0), none, none, none, none, none, none], [.ref 22, .int 0], h2, 0, 0)) rfl (Nat.le_of_ble_eq_true rfl) (Nat.le_of_ble_eq_true rfl) ?_
  refine ar_get ok_Mo_firstAble rfl e4 (v := .int 0) rfl (pc' := 13) rfl (Nat.le_of_ble_eq_true rfl) (Nat.le_of_ble_eq_true rfl) ?_
  refine am_steps ok_Mo_firstAble 2 (x' := (143, [some (.ref 22), some (.int (-1)), some (.int 0), none, none, none, none, none, none], [.ref 22], h2, 0, 0)) rfl (Nat.le_of_ble_eq_true rfl) (Nat.le_of_ble_eq_true rfl) ?_
  refine ar_cv ok_Mo_firstAble hk_Mo_untouch rfl rfl (As := []) (ad := 22) (rest := []) rfl rfl e4 (by decide) (m_untouch dy tk h2 e4 ) (Nat.le_of_ble_eq_true rfl) (Nat.le_of_ble_eq_true rfl) (Nat.le_of_ble_eq_true rfl) (Nat.le_of_ble_eq_true rfl) (pc' := 146) rfl (fun r9 h10 q11 => ?_)
  obtain ⟨rfl, e12, f13, l14⟩ := q11
  show am_S _ _ _ _ _ _ _ (146, [some (.ref 22), some (.int (-1)), some (.int 0), none, none, none, none, none, none], [], h10, 0, 0) _
  have fr15 : ∀ q, q ∉ ([22] : List Nat) → h10[q]? = h[q]? := fun q hq => (f13 q (am_sub (by decide) hq)).trans (fr7 q (am_sub (by decide) hq))
  have ln16 : h10.length = h.length := l14.trans ln8
  refine am_steps ok_Mo_firstAble 1 (x' := (147, [some (.ref 22), some (.int (-1)), some (.int 0), none, none, none, none, none, none], [.int (-1)], h10, 0, 0)) rfl (Nat.le_of_ble_eq_true rfl) (Nat.le_of_ble_eq_true rfl) ?_
  exact am_ret ok_Mo_firstAble rfl (Nat.le_of_ble_eq_true rfl) (Nat.le_of_ble_eq_true rfl) ⟨rfl, e12, fun q hq => fr15 q (am_sub (by decide) hq), ln16⟩
set_option maxHeartbeats 4000000 in
set_option maxRecDepth 100000 in
theorem m_settle (dy : Int32) (tk : Int32) (h : am_H) (c_22 : h[22]? = some (.inr (1, mo 0 0 dy tk (-1) 1 8)))  : am_Me am_Pr none 4 107 0 0 68 [.ref 22] h (fun r h' => r = none ∧ h'[22]? = some (.inr (1, mo 0 0 dy tk (-1) 1 8)) ∧ (∀ q, q ∉ ([22] : List Nat) → h'[q]? = h[q]?) ∧ h'.length = h.length) := by
  refine am_enter (d := hd_Mo_settle) rfl (by decide +kernel) (Nat.le_of_ble_eq_true rfl) ?_
  show am_S _ _ _ _ _ _ _ (0, [some (.ref 22), none, none], [], h, 0, 0) _
  refine am_steps ok_Mo_settle 1 (x' := (1, [some (.ref 22), none, none], [.ref 22], h, 0, 0)) rfl (Nat.le_of_ble_eq_true rfl) (Nat.le_of_ble_eq_true rfl) ?_
  refine ar_cv ok_Mo_settle hk_Mo_firstAble rfl rfl (As := []) (ad := 22) (rest := []) rfl rfl c_22 (by decide) (m_firstAble dy tk h c_22 ) (Nat.le_of_ble_eq_true rfl) (Nat.le_of_ble_eq_true rfl) (Nat.le_of_ble_eq_true rfl) (Nat.le_of_ble_eq_true rfl) (pc' := 4) rfl (fun r1 h2 q3 => ?_)
  obtain ⟨rfl, e4, f5, l6⟩ := q3
  show am_S _ _ _ _ _ _ _ (4, [some (.ref 22), none, none], [.int (-1)], h2, 0, 0) _
  have fr7 : ∀ q, q ∉ ([22] : List Nat) → h2[q]? = h[q]? := fun q hq => f5 q (am_sub (by decide) hq)
  have ln8 : h2.length = h.length := l6
  refine am_steps ok_Mo_settle 8 (x' := (43, [some (.ref 22), some (.int (-1)), some (.int 0)], [], h2, 0, 0)) rfl (Nat.le_of_ble_eq_true rfl) (Nat.le_of_ble_eq_true rfl) ?_
  exact am_ret ok_Mo_settle rfl (Nat.le_of_ble_eq_true rfl) (Nat.le_of_ble_eq_true rfl) ⟨rfl, e4, fun q hq => fr7 q (am_sub (by decide) hq), ln8⟩
set_option maxHeartbeats 4000000 in
set_option maxRecDepth 100000 in
theorem m_resolve (dy : Int32) (tk : Int32) (h : am_H) (c_22 : h[22]? = some (.inr (1, mo 0 0 dy tk (-1) 1 8)))  : am_Me am_Pr none 5 129 0 0 71 [.ref 22] h (fun r h' => r = none ∧ h'[22]? = some (.inr (1, mo 0 0 dy tk (-1) 1 8)) ∧ (∀ q, q ∉ ([22] : List Nat) → h'[q]? = h[q]?) ∧ h'.length = h.length) := by
  refine am_enter (d := hd_Mo_resolve) rfl (by decide +kernel) (Nat.le_of_ble_eq_true rfl) ?_
  show am_S _ _ _ _ _ _ _ (0, [some (.ref 22), none, none, none, none], [], h, 0, 0) _
  refine am_steps ok_Mo_resolve 1 (x' := (1, [some (.ref 22), none, none, none, none], [.ref 22], h, 0, 0)) rfl (Nat.le_of_ble_eq_true rfl) (Nat.le_of_ble_eq_true rfl) ?_
  refine ar_cv ok_Mo_resolve hk_Mo_sort rfl rfl (As := []) (ad := 22) (rest := []) rfl rfl c_22 (by decide) (m_sort dy tk h c_22 ) (Nat.le_of_ble_eq_true rfl) (Nat.le_of_ble_eq_true rfl) (Nat.le_of_ble_eq_true rfl) (Nat.le_of_ble_eq_true rfl) (pc' := 4) rfl (fun r1 h2 q3 => ?_)
  obtain ⟨rfl, e4, f5, l6⟩ := q3
  show am_S _ _ _ _ _ _ _ (4, [some (.ref 22), none, none, none, none], [], h2, 0, 0) _
  have fr7 : ∀ q, q ∉ ([22] : List Nat) → h2[q]? = h[q]? := fun q hq => f5 q (am_sub (by decide) hq)
  have ln8 : h2.length = h.length := l6
  refine am_steps ok_Mo_resolve 4 (x' := (8, [some (.ref 22), some (.int 0), none, none, none], [.ref 22, .int 0], h2, 0, 0)) rfl (Nat.le_of_ble_eq_true rfl) (Nat.le_of_ble_eq_true rfl) ?_
  refine ar_get ok_Mo_resolve rfl e4 (v := .int 0) rfl (pc' := 11) rfl (Nat.le_of_ble_eq_true rfl) (Nat.le_of_ble_eq_true rfl) ?_
  refine am_steps ok_Mo_resolve 2 (x' := (33, [some (.ref 22), some (.int 0), none, none, none], [.ref 22], h2, 0, 0)) rfl (Nat.le_of_ble_eq_true rfl) (Nat.le_of_ble_eq_true rfl) ?_
  refine ar_cv ok_Mo_resolve hk_Mo_close rfl rfl (As := []) (ad := 22) (rest := []) rfl rfl e4 (by decide) (m_close dy tk h2 e4 ) (Nat.le_of_ble_eq_true rfl) (Nat.le_of_ble_eq_true rfl) (Nat.le_of_ble_eq_true rfl) (Nat.le_of_ble_eq_true rfl) (pc' := 36) rfl (fun r9 h10 q11 => ?_)
  obtain ⟨rfl, e12, f13, l14⟩ := q11
  show am_S _ _ _ _ _ _ _ (36, [some (.ref 22), some (.int 0), none, none, none], [], h10, 0, 0) _
  have fr15 : ∀ q, q ∉ ([22] : List Nat) → h10[q]? = h[q]? := fun q hq => (f13 q (am_sub (by decide) hq)).trans (fr7 q (am_sub (by decide) hq))
  have ln16 : h10.length = h.length := l14.trans ln8
  refine am_steps ok_Mo_resolve 1 (x' := (37, [some (.ref 22), some (.int 0), none, none, none], [.ref 22], h10, 0, 0)) rfl (Nat.le_of_ble_eq_true rfl) (Nat.le_of_ble_eq_true rfl) ?_
  refine ar_cv ok_Mo_resolve hk_Mo_short0 rfl rfl (As := []) (ad := 22) (rest := []) rfl rfl e12 (by decide) (m_short0 dy tk h10 e12 ) (Nat.le_of_ble_eq_true rfl) (Nat.le_of_ble_eq_true rfl) (Nat.le_of_ble_eq_true rfl) (Nat.le_of_ble_eq_true rfl) (pc' := 40) rfl (fun r17 h18 q19 => ?_)
  obtain ⟨rfl, e20, f21, l22⟩ := q19
  show am_S _ _ _ _ _ _ _ (40, [some (.ref 22), some (.int 0), none, none, none], [.int (-1)], h18, 0, 0) _
  have fr23 : ∀ q, q ∉ ([22] : List Nat) → h18[q]? = h[q]? := fun q hq => (f21 q (am_sub (by decide) hq)).trans (fr15 q (am_sub (by decide) hq))
  have ln24 : h18.length = h.length := l22.trans ln16
  refine am_steps ok_Mo_resolve 14 (x' := (146, [some (.ref 22), some (.int (-1)), some (.int 0), some (.int 0), none], [.ref 22, .int 0], h18, 0, 0)) rfl (Nat.le_of_ble_eq_true rfl) (Nat.le_of_ble_eq_true rfl) ?_
  refine ar_get ok_Mo_resolve rfl e20 (v := .int 0) rfl (pc' := 149) rfl (Nat.le_of_ble_eq_true rfl) (Nat.le_of_ble_eq_true rfl) ?_
  refine am_steps ok_Mo_resolve 2 (x' := (189, [some (.ref 22), some (.int (-1)), some (.int 0), some (.int 0), none], [.ref 22], h18, 0, 0)) rfl (Nat.le_of_ble_eq_true rfl) (Nat.le_of_ble_eq_true rfl) ?_
  refine ar_get ok_Mo_resolve rfl e20 (v := .int 0) rfl (pc' := 192) rfl (Nat.le_of_ble_eq_true rfl) (Nat.le_of_ble_eq_true rfl) ?_
  refine am_steps ok_Mo_resolve 1 (x' := (193, [some (.ref 22), some (.int (-1)), some (.int 0), some (.int 0), none], [.int 1, .int 0], h18, 0, 0)) rfl (Nat.le_of_ble_eq_true rfl) (Nat.le_of_ble_eq_true rfl) ?_
  refine ar_isub ok_Mo_resolve rfl (w := (-1)) (by decide +kernel) (pc' := 194) rfl (Nat.le_of_ble_eq_true rfl) (Nat.le_of_ble_eq_true rfl) ?_
  refine am_steps ok_Mo_resolve 6 (x' := (237, [some (.ref 22), some (.int (-1)), some (.int 0), some (.int (-1)), none], [.ref 22], h18, 0, 0)) rfl (Nat.le_of_ble_eq_true rfl) (Nat.le_of_ble_eq_true rfl) ?_
  refine ar_cv ok_Mo_resolve hk_Mo_settle rfl rfl (As := []) (ad := 22) (rest := []) rfl rfl e20 (by decide) (m_settle dy tk h18 e20 ) (Nat.le_of_ble_eq_true rfl) (Nat.le_of_ble_eq_true rfl) (Nat.le_of_ble_eq_true rfl) (Nat.le_of_ble_eq_true rfl) (pc' := 240) rfl (fun r25 h26 q27 => ?_)
  obtain ⟨rfl, e28, f29, l30⟩ := q27
  show am_S _ _ _ _ _ _ _ (240, [some (.ref 22), some (.int (-1)), some (.int 0), some (.int (-1)), none], [], h26, 0, 0) _
  have fr31 : ∀ q, q ∉ ([22] : List Nat) → h26[q]? = h[q]? := fun q hq => (f29 q (am_sub (by decide) hq)).trans (fr23 q (am_sub (by decide) hq))
  have ln32 : h26.length = h.length := l30.trans ln24
  exact am_ret ok_Mo_resolve rfl (Nat.le_of_ble_eq_true rfl) (Nat.le_of_ble_eq_true rfl) ⟨rfl, e28, fun q hq => fr31 q (am_sub (by decide) hq), ln32⟩
set_option maxHeartbeats 4000000 in
set_option maxRecDepth 100000 in
theorem m_endDay (dy : Int32) (tk : Int32) (h : am_H) (c_22 : h[22]? = some (.inr (1, mo 0 0 dy tk (-1) 1 8)))  : am_Me am_Pr none 3 66 0 0 73 [.ref 22] h (fun r h' => r = none ∧ h'[22]? = some (.inr (1, mo 0 0 dy tk (-1) 1 8)) ∧ (∀ q, q ∉ ([22] : List Nat) → h'[q]? = h[q]?) ∧ h'.length = h.length) := by
  refine am_enter (d := hd_Mo_endDay) rfl (by decide +kernel) (Nat.le_of_ble_eq_true rfl) ?_
  show am_S _ _ _ _ _ _ _ (0, [some (.ref 22), none], [], h, 0, 0) _
  refine am_steps ok_Mo_endDay 1 (x' := (1, [some (.ref 22), none], [.ref 22], h, 0, 0)) rfl (Nat.le_of_ble_eq_true rfl) (Nat.le_of_ble_eq_true rfl) ?_
  refine ar_cv ok_Mo_endDay hk_Mo_sort rfl rfl (As := []) (ad := 22) (rest := []) rfl rfl c_22 (by decide) (m_sort dy tk h c_22 ) (Nat.le_of_ble_eq_true rfl) (Nat.le_of_ble_eq_true rfl) (Nat.le_of_ble_eq_true rfl) (Nat.le_of_ble_eq_true rfl) (pc' := 4) rfl (fun r1 h2 q3 => ?_)
  obtain ⟨rfl, e4, f5, l6⟩ := q3
  show am_S _ _ _ _ _ _ _ (4, [some (.ref 22), none], [], h2, 0, 0) _
  have fr7 : ∀ q, q ∉ ([22] : List Nat) → h2[q]? = h[q]? := fun q hq => f5 q (am_sub (by decide) hq)
  have ln8 : h2.length = h.length := l6
  refine am_steps ok_Mo_endDay 4 (x' := (8, [some (.ref 22), some (.int 0)], [.ref 22, .int 0], h2, 0, 0)) rfl (Nat.le_of_ble_eq_true rfl) (Nat.le_of_ble_eq_true rfl) ?_
  refine ar_get ok_Mo_endDay rfl e4 (v := .int 0) rfl (pc' := 11) rfl (Nat.le_of_ble_eq_true rfl) (Nat.le_of_ble_eq_true rfl) ?_
  refine am_steps ok_Mo_endDay 5 (x' := (34, [some (.ref 22), some (.int 0)], [.ref 22, .int 0], h2, 0, 0)) rfl (Nat.le_of_ble_eq_true rfl) (Nat.le_of_ble_eq_true rfl) ?_
  refine ar_get ok_Mo_endDay rfl e4 (v := .int 0) rfl (pc' := 37) rfl (Nat.le_of_ble_eq_true rfl) (Nat.le_of_ble_eq_true rfl) ?_
  refine am_steps ok_Mo_endDay 3 (x' := (62, [some (.ref 22), some (.int 0)], [.int 0, .ref 22], h2, 0, 0)) rfl (Nat.le_of_ble_eq_true rfl) (Nat.le_of_ble_eq_true rfl) ?_
  refine ar_put ok_Mo_endDay rfl e4 (Nat.le_of_ble_eq_true rfl) rfl (fs' := [.ref 23, .int 0, .ref 24, .int 0, .int 0, .int 0, .ref 25, .int 0, .int 0, .ref 26, .int 1, .ref 27, .ref 28, .ref 29, .ref 30, .int 0, .int (-1), .ref 31, .ref 32, .ref 33, .ref 34, .ref 35, .ref 36, .ref 37, .ref 38, .int 0, .ref 39, .ref 40, .ref 41, .ref 42, .int 0, .int 0, .int 0, .ref 43, .ref 44, .ref 45, .ref 46, .ref 47, .ref 48, .ref 49, .ref 50, .ref 51, .ref 52, .ref 53, .ref 54, .long 0, .ref 55, .ref 56, .int 0, .ref 57, .ref 58, .ref 59, .long 0, .int 0, .int 0, .int dy, .int tk, .int 1, .int (-1), .int 1, .int 8, .int 0]) rfl (pc' := 65) rfl (Nat.le_of_ble_eq_true rfl) (Nat.le_of_ble_eq_true rfl) (fun h9 e10 e11 e12 => ?_)
  have fr13 : ∀ q, q ∉ ([22] : List Nat) → h9[q]? = h[q]? := fun q hq => (e11 q (fun z => hq (by rw [z]; decide))).trans (fr7 q (am_sub (by decide) hq))
  have ln14 : h9.length = h.length := e12.trans ln8
  exact am_ret ok_Mo_endDay rfl (Nat.le_of_ble_eq_true rfl) (Nat.le_of_ble_eq_true rfl) ⟨rfl, e10, fun q hq => fr13 q (am_sub (by decide) hq), ln14⟩
def am_Qnd (dy tk : Int32) (h0 : am_H) : Option Value → am_H → Prop := fun r h' => ∃ (pd bg wt cm : Nat → Int64) (mv : Nat → Int32), r = none ∧ h'[22]? = some (.inr (1, mo 0 0 dy tk (-1) 1 8)) ∧ h'[37]? = some (.inl (1, 65536, .inr (.inl pd))) ∧ h'[33]? = some (.inl (1, 16384, .inr (.inl bg))) ∧ h'[34]? = some (.inl (1, 16384, .inr (.inl wt))) ∧ h'[35]? = some (.inl (1, 16384, .inr (.inl cm))) ∧ h'[36]? = some (.inl (0, 16384, .inl mv)) ∧ (∀ q, q ∉ ([22, 37, 33, 34, 35, 36] : List Nat) → h'[q]? = h0[q]?) ∧ h'.length = h0.length
set_option maxHeartbeats 4000000 in
set_option maxRecDepth 100000 in
theorem l_nd2 (dy tk : Int32) (ps : Nat → Int64) (h0 : am_H) : ∀ (fu i : Nat) (pd bg wt cm : Nat → Int64) (mv : Nat → Int32) (h : am_H), i ≤ 16384 → 16384 - i < fu → h[22]? = some (.inr (1, mo 0 0 dy tk (-1) 1 8)) → h[37]? = some (.inl (1, 65536, .inr (.inl pd))) → h[33]? = some (.inl (1, 16384, .inr (.inl bg))) → h[34]? = some (.inl (1, 16384, .inr (.inl wt))) → h[35]? = some (.inl (1, 16384, .inr (.inl cm))) → h[36]? = some (.inl (0, 16384, .inl mv)) → h[31]? = some (.inl (1, 16384, .inr (.inl ps))) → (∀ q, q ∉ ([22, 37, 33, 34, 35, 36] : List Nat) → h[q]? = h0[q]?) → h.length = h0.length → am_S am_Pr none 0 0 0 0 84 (43, [some (.ref 22), some (.int (nI i))], [], h, 0, 0) (am_Qnd dy tk h0) := by
  intro fu
  induction fu with
  | zero => intro i pd bg wt cm mv h h1 h2; omega
  | succ fu ih =>
    intro i pd bg wt cm mv h hi hm c_22 c_37 c_33 c_34 c_35 c_36 c_31 hfr hln
    refine am_steps ok_Mo_newDay 3 (x' := (if (16384 : Int32) ≤ nI i then 89 else 50, [some (.ref 22), some (.int (nI i))], [], h, 0, 0)) rfl (Nat.le_of_ble_eq_true rfl) (Nat.le_of_ble_eq_true rfl) ?_
    refine am_if (fun hc1 => ?_) (fun hc1 => ?_)
    · exact am_ret ok_Mo_newDay rfl (Nat.le_of_ble_eq_true rfl) (Nat.le_of_ble_eq_true rfl) ⟨pd, bg, wt, cm, mv, rfl, c_22, c_37, c_33, c_34, c_35, c_36, fun q hq => hfr q hq, hln⟩
    · have hlt_16384 : i < 16384 := am_nlt (by omega) hc1
      refine am_steps ok_Mo_newDay 1 (x' := (51, [some (.ref 22), some (.int (nI i))], [.ref 22], h, 0, 0)) rfl (Nat.le_of_ble_eq_true rfl) (Nat.le_of_ble_eq_true rfl) ?_
      refine ar_get ok_Mo_newDay rfl c_22 (v := .ref 33) rfl (pc' := 54) rfl (Nat.le_of_ble_eq_true rfl) (Nat.le_of_ble_eq_true rfl) ?_
      refine am_steps ok_Mo_newDay 2 (x' := (56, [some (.ref 22), some (.int (nI i))], [.ref 22, .int (nI i), .ref 33], h, 0, 0)) rfl (Nat.le_of_ble_eq_true rfl) (Nat.le_of_ble_eq_true rfl) ?_
      refine ar_get ok_Mo_newDay rfl c_22 (v := .ref 31) rfl (pc' := 59) rfl (Nat.le_of_ble_eq_true rfl) (Nat.le_of_ble_eq_true rfl) ?_
      refine am_steps ok_Mo_newDay 1 (x' := (60, [some (.ref 22), some (.int (nI i))], [.int (nI i), .ref 31, .int (nI i), .ref 33], h, 0, 0)) rfl (Nat.le_of_ble_eq_true rfl) (Nat.le_of_ble_eq_true rfl) ?_
      refine ar_lald ok_Mo_newDay rfl c_31 (jx := i) (am_ix_nI hlt_16384 (by decide)) rfl (pc' := 61) rfl (Nat.le_of_ble_eq_true rfl) (Nat.le_of_ble_eq_true rfl) ?_
      refine ar_last ok_Mo_newDay rfl c_33 (jx := i) (am_ix_nI hlt_16384 (by decide)) (pc' := 62) rfl (Nat.le_of_ble_eq_true rfl) (Nat.le_of_ble_eq_true rfl) (fun h2 e3 e4 e5 => ?_)
      have c6 := (e4 22 (by decide)).trans c_22
      have c7 := (e4 37 (by decide)).trans c_37
      have c8 := (e4 34 (by decide)).trans c_34
      have c9 := (e4 35 (by decide)).trans c_35
      have c10 := (e4 36 (by decide)).trans c_36
      have c11 := (e4 31 (by decide)).trans c_31
      have fr12 : ∀ q, q ∉ ([33] : List Nat) → h2[q]? = h[q]? := fun q hq => e4 q (fun z => hq (by rw [z]; decide))
      have ln13 : h2.length = h.length := e5
      refine am_steps ok_Mo_newDay 1 (x' := (63, [some (.ref 22), some (.int (nI i))], [.ref 22], h2, 0, 0)) rfl (Nat.le_of_ble_eq_true rfl) (Nat.le_of_ble_eq_true rfl) ?_
      refine ar_get ok_Mo_newDay rfl c6 (v := .ref 34) rfl (pc' := 66) rfl (Nat.le_of_ble_eq_true rfl) (Nat.le_of_ble_eq_true rfl) ?_
      refine am_steps ok_Mo_newDay 2 (x' := (68, [some (.ref 22), some (.int (nI i))], [.long 0, .int (nI i), .ref 34], h2, 0, 0)) rfl (Nat.le_of_ble_eq_true rfl) (Nat.le_of_ble_eq_true rfl) ?_
      refine ar_last ok_Mo_newDay rfl c8 (jx := i) (am_ix_nI hlt_16384 (by decide)) (pc' := 69) rfl (Nat.le_of_ble_eq_true rfl) (Nat.le_of_ble_eq_true rfl) (fun h14 e15 e16 e17 => ?_)
      have c18 := (e16 22 (by decide)).trans c6
      have c19 := (e16 37 (by decide)).trans c7
      have c20 := (e16 33 (by decide)).trans e3
      have c21 := (e16 35 (by decide)).trans c9
      have c22 := (e16 36 (by decide)).trans c10
      have c23 := (e16 31 (by decide)).trans c11
      have fr24 : ∀ q, q ∉ ([33, 34] : List Nat) → h14[q]? = h[q]? := fun q hq => (e16 q (fun z => hq (by rw [z]; decide))).trans (fr12 q (am_sub (by decide) hq))
      have ln25 : h14.length = h.length := e17.trans ln13
      refine am_steps ok_Mo_newDay 1 (x' := (70, [some (.ref 22), some (.int (nI i))], [.ref 22], h14, 0, 0)) rfl (Nat.le_of_ble_eq_true rfl) (Nat.le_of_ble_eq_true rfl) ?_
      refine ar_get ok_Mo_newDay rfl c18 (v := .ref 35) rfl (pc' := 73) rfl (Nat.le_of_ble_eq_true rfl) (Nat.le_of_ble_eq_true rfl) ?_
      refine am_steps ok_Mo_newDay 2 (x' := (75, [some (.ref 22), some (.int (nI i))], [.long 0, .int (nI i), .ref 35], h14, 0, 0)) rfl (Nat.le_of_ble_eq_true rfl) (Nat.le_of_ble_eq_true rfl) ?_
      refine ar_last ok_Mo_newDay rfl c21 (jx := i) (am_ix_nI hlt_16384 (by decide)) (pc' := 76) rfl (Nat.le_of_ble_eq_true rfl) (Nat.le_of_ble_eq_true rfl) (fun h26 e27 e28 e29 => ?_)
      have c30 := (e28 22 (by decide)).trans c18
      have c31 := (e28 37 (by decide)).trans c19
      have c32 := (e28 33 (by decide)).trans c20
      have c33 := (e28 34 (by decide)).trans e15
      have c34 := (e28 36 (by decide)).trans c22
      have c35 := (e28 31 (by decide)).trans c23
      have fr36 : ∀ q, q ∉ ([33, 34, 35] : List Nat) → h26[q]? = h[q]? := fun q hq => (e28 q (fun z => hq (by rw [z]; decide))).trans (fr24 q (am_sub (by decide) hq))
      have ln37 : h26.length = h.length := e29.trans ln25
      refine am_steps ok_Mo_newDay 1 (x' := (77, [some (.ref 22), some (.int (nI i))], [.ref 22], h26, 0, 0)) rfl (Nat.le_of_ble_eq_true rfl) (Nat.le_of_ble_eq_true rfl) ?_
      refine ar_get ok_Mo_newDay rfl c30 (v := .ref 36) rfl (pc' := 80) rfl (Nat.le_of_ble_eq_true rfl) (Nat.le_of_ble_eq_true rfl) ?_
      refine am_steps ok_Mo_newDay 2 (x' := (82, [some (.ref 22), some (.int (nI i))], [.int 0, .int (nI i), .ref 36], h26, 0, 0)) rfl (Nat.le_of_ble_eq_true rfl) (Nat.le_of_ble_eq_true rfl) ?_
      refine ar_iast ok_Mo_newDay rfl c34 (jx := i) (am_ix_nI hlt_16384 (by decide)) (pc' := 83) rfl (Nat.le_of_ble_eq_true rfl) (Nat.le_of_ble_eq_true rfl) (fun h38 e39 e40 e41 => ?_)
      have c42 := (e40 22 (by decide)).trans c30
      have c43 := (e40 37 (by decide)).trans c31
      have c44 := (e40 33 (by decide)).trans c32
      have c45 := (e40 34 (by decide)).trans c33
      have c46 := (e40 35 (by decide)).trans e27
      have c47 := (e40 31 (by decide)).trans c35
      have fr48 : ∀ q, q ∉ ([33, 34, 35, 36] : List Nat) → h38[q]? = h[q]? := fun q hq => (e40 q (fun z => hq (by rw [z]; decide))).trans (fr36 q (am_sub (by decide) hq))
      have ln49 : h38.length = h.length := e41.trans ln37
      refine am_steps ok_Mo_newDay 2 (x' := (43, [some (.ref 22), some (.int ((nI i) + 1))], [], h38, 0, 0)) rfl (Nat.le_of_ble_eq_true rfl) (Nat.le_of_ble_eq_true rfl) ?_
      rw [nI_1]
      exact ih (i + 1) (pd) (vp_updL bg i ((ps i))) (vp_updL wt i 0) (vp_updL cm i 0) (upd mv i 0) h38 (by omega) (by omega) c42 c43 c44 c45 c46 e39 c47 (fun q hq => (fr48 q (am_sub (by decide) hq)).trans (hfr q hq)) (ln49.trans hln)
set_option maxHeartbeats 4000000 in
set_option maxRecDepth 100000 in
theorem l_nd1 (dy tk : Int32) (ps : Nat → Int64) (h0 : am_H) : ∀ (fu i : Nat) (pd bg wt cm : Nat → Int64) (mv : Nat → Int32) (h : am_H), i ≤ 65536 → 65536 - i < fu → h[22]? = some (.inr (1, mo 0 0 dy tk (-1) 1 8)) → h[37]? = some (.inl (1, 65536, .inr (.inl pd))) → h[33]? = some (.inl (1, 16384, .inr (.inl bg))) → h[34]? = some (.inl (1, 16384, .inr (.inl wt))) → h[35]? = some (.inl (1, 16384, .inr (.inl cm))) → h[36]? = some (.inl (0, 16384, .inl mv)) → h[31]? = some (.inl (1, 16384, .inr (.inl ps))) → (∀ q, q ∉ ([22, 37, 33, 34, 35, 36] : List Nat) → h[q]? = h0[q]?) → h.length = h0.length → am_S am_Pr none 0 0 0 0 84 (22, [some (.ref 22), some (.int (nI i))], [], h, 0, 0) (am_Qnd dy tk h0) := by
  intro fu
  induction fu with
  | zero => intro i pd bg wt cm mv h h1 h2; omega
  | succ fu ih =>
    intro i pd bg wt cm mv h hi hm c_22 c_37 c_33 c_34 c_35 c_36 c_31 hfr hln
    refine am_steps ok_Mo_newDay 3 (x' := (if (65536 : Int32) ≤ nI i then 41 else 28, [some (.ref 22), some (.int (nI i))], [], h, 0, 0)) rfl (Nat.le_of_ble_eq_true rfl) (Nat.le_of_ble_eq_true rfl) ?_
    refine am_if (fun hc1 => ?_) (fun hc1 => ?_)
    · refine am_steps ok_Mo_newDay 2 (x' := (43, [some (.ref 22), some (.int 0)], [], h, 0, 0)) rfl (Nat.le_of_ble_eq_true rfl) (Nat.le_of_ble_eq_true rfl) ?_
      exact l_nd2 dy tk ps h0 16385 0 (pd) (bg) (wt) (cm) (mv) h (by omega) (by omega) c_22 c_37 c_33 c_34 c_35 c_36 c_31 (fun q hq => hfr q hq) (hln)
    · have hlt_65536 : i < 65536 := am_nlt (by omega) hc1
      refine am_steps ok_Mo_newDay 1 (x' := (29, [some (.ref 22), some (.int (nI i))], [.ref 22], h, 0, 0)) rfl (Nat.le_of_ble_eq_true rfl) (Nat.le_of_ble_eq_true rfl) ?_
      refine ar_get ok_Mo_newDay rfl c_22 (v := .ref 37) rfl (pc' := 32) rfl (Nat.le_of_ble_eq_true rfl) (Nat.le_of_ble_eq_true rfl) ?_
      refine am_steps ok_Mo_newDay 2 (x' := (34, [some (.ref 22), some (.int (nI i))], [.long 0, .int (nI i), .ref 37], h, 0, 0)) rfl (Nat.le_of_ble_eq_true rfl) (Nat.le_of_ble_eq_true rfl) ?_
      refine ar_last ok_Mo_newDay rfl c_37 (jx := i) (am_ix_nI hlt_65536 (by decide)) (pc' := 35) rfl (Nat.le_of_ble_eq_true rfl) (Nat.le_of_ble_eq_true rfl) (fun h2 e3 e4 e5 => ?_)
      have c6 := (e4 22 (by decide)).trans c_22
      have c7 := (e4 33 (by decide)).trans c_33
      have c8 := (e4 34 (by decide)).trans c_34
      have c9 := (e4 35 (by decide)).trans c_35
      have c10 := (e4 36 (by decide)).trans c_36
      have c11 := (e4 31 (by decide)).trans c_31
      have fr12 : ∀ q, q ∉ ([37] : List Nat) → h2[q]? = h[q]? := fun q hq => e4 q (fun z => hq (by rw [z]; decide))
      have ln13 : h2.length = h.length := e5
      refine am_steps ok_Mo_newDay 2 (x' := (22, [some (.ref 22), some (.int ((nI i) + 1))], [], h2, 0, 0)) rfl (Nat.le_of_ble_eq_true rfl) (Nat.le_of_ble_eq_true rfl) ?_
      rw [nI_1]
      exact ih (i + 1) (vp_updL pd i 0) (bg) (wt) (cm) (mv) h2 (by omega) (by omega) c6 e3 c7 c8 c9 c10 c11 (fun q hq => (fr12 q (am_sub (by decide) hq)).trans (hfr q hq)) (ln13.trans hln)
set_option maxHeartbeats 4000000 in
set_option maxRecDepth 100000 in
theorem m_newDay (dy tk : Int32) (ps : Nat → Int64) (pd bg wt cm : Nat → Int64) (mv : Nat → Int32) (h : am_H) (c_22 : h[22]? = some (.inr (1, mo 0 0 dy tk (-1) 1 8))) (c_37 : h[37]? = some (.inl (1, 65536, .inr (.inl pd)))) (c_33 : h[33]? = some (.inl (1, 16384, .inr (.inl bg)))) (c_34 : h[34]? = some (.inl (1, 16384, .inr (.inl wt)))) (c_35 : h[35]? = some (.inl (1, 16384, .inr (.inl cm)))) (c_36 : h[36]? = some (.inl (0, 16384, .inl mv))) (c_31 : h[31]? = some (.inl (1, 16384, .inr (.inl ps)))) : am_Me am_Pr none 0 0 0 0 84 [.ref 22] h (am_Qnd (dy + 1) 0 h) := by
  refine am_enter (d := hd_Mo_newDay) rfl (by decide +kernel) (Nat.le_of_ble_eq_true rfl) ?_
  show am_S _ _ _ _ _ _ _ (0, [some (.ref 22), none], [], h, 0, 0) _
  refine am_steps ok_Mo_newDay 2 (x' := (2, [some (.ref 22), none], [.int 0, .ref 22], h, 0, 0)) rfl (Nat.le_of_ble_eq_true rfl) (Nat.le_of_ble_eq_true rfl) ?_
  refine ar_put ok_Mo_newDay rfl c_22 (Nat.le_of_ble_eq_true rfl) rfl (fs' := [.ref 23, .int 0, .ref 24, .int 0, .int 0, .int 0, .ref 25, .int 0, .int 0, .ref 26, .int 1, .ref 27, .ref 28, .ref 29, .ref 30, .int 0, .int (-1), .ref 31, .ref 32, .ref 33, .ref 34, .ref 35, .ref 36, .ref 37, .ref 38, .int 0, .ref 39, .ref 40, .ref 41, .ref 42, .int 0, .int 0, .int 0, .ref 43, .ref 44, .ref 45, .ref 46, .ref 47, .ref 48, .ref 49, .ref 50, .ref 51, .ref 52, .ref 53, .ref 54, .long 0, .ref 55, .ref 56, .int 0, .ref 57, .ref 58, .ref 59, .long 0, .int 0, .int 0, .int dy, .int 0, .int 1, .int (-1), .int 1, .int 8, .int 0]) rfl (pc' := 5) rfl (Nat.le_of_ble_eq_true rfl) (Nat.le_of_ble_eq_true rfl) (fun h1 e2 e3 e4 => ?_)
  have c5 := (e3 37 (by decide)).trans c_37
  have c6 := (e3 33 (by decide)).trans c_33
  have c7 := (e3 34 (by decide)).trans c_34
  have c8 := (e3 35 (by decide)).trans c_35
  have c9 := (e3 36 (by decide)).trans c_36
  have c10 := (e3 31 (by decide)).trans c_31
  have fr11 : ∀ q, q ∉ ([22] : List Nat) → h1[q]? = h[q]? := fun q hq => e3 q (fun z => hq (by rw [z]; decide))
  have ln12 : h1.length = h.length := e4
  refine am_steps ok_Mo_newDay 2 (x' := (7, [some (.ref 22), none], [.ref 22, .ref 22], h1, 0, 0)) rfl (Nat.le_of_ble_eq_true rfl) (Nat.le_of_ble_eq_true rfl) ?_
  refine ar_get ok_Mo_newDay rfl e2 (v := .int dy) rfl (pc' := 10) rfl (Nat.le_of_ble_eq_true rfl) (Nat.le_of_ble_eq_true rfl) ?_
  refine am_steps ok_Mo_newDay 2 (x' := (12, [some (.ref 22), none], [.int (dy + 1), .ref 22], h1, 0, 0)) rfl (Nat.le_of_ble_eq_true rfl) (Nat.le_of_ble_eq_true rfl) ?_
  refine ar_put ok_Mo_newDay rfl e2 (Nat.le_of_ble_eq_true rfl) rfl (fs' := [.ref 23, .int 0, .ref 24, .int 0, .int 0, .int 0, .ref 25, .int 0, .int 0, .ref 26, .int 1, .ref 27, .ref 28, .ref 29, .ref 30, .int 0, .int (-1), .ref 31, .ref 32, .ref 33, .ref 34, .ref 35, .ref 36, .ref 37, .ref 38, .int 0, .ref 39, .ref 40, .ref 41, .ref 42, .int 0, .int 0, .int 0, .ref 43, .ref 44, .ref 45, .ref 46, .ref 47, .ref 48, .ref 49, .ref 50, .ref 51, .ref 52, .ref 53, .ref 54, .long 0, .ref 55, .ref 56, .int 0, .ref 57, .ref 58, .ref 59, .long 0, .int 0, .int 0, .int (dy + 1), .int 0, .int 1, .int (-1), .int 1, .int 8, .int 0]) rfl (pc' := 15) rfl (Nat.le_of_ble_eq_true rfl) (Nat.le_of_ble_eq_true rfl) (fun h13 e14 e15 e16 => ?_)
  have c17 := (e15 37 (by decide)).trans c5
  have c18 := (e15 33 (by decide)).trans c6
  have c19 := (e15 34 (by decide)).trans c7
  have c20 := (e15 35 (by decide)).trans c8
  have c21 := (e15 36 (by decide)).trans c9
  have c22 := (e15 31 (by decide)).trans c10
  have fr23 : ∀ q, q ∉ ([22] : List Nat) → h13[q]? = h[q]? := fun q hq => (e15 q (fun z => hq (by rw [z]; decide))).trans (fr11 q (am_sub (by decide) hq))
  have ln24 : h13.length = h.length := e16.trans ln12
  refine am_steps ok_Mo_newDay 2 (x' := (17, [some (.ref 22), none], [.int 0, .ref 22], h13, 0, 0)) rfl (Nat.le_of_ble_eq_true rfl) (Nat.le_of_ble_eq_true rfl) ?_
  refine ar_put ok_Mo_newDay rfl e14 (Nat.le_of_ble_eq_true rfl) rfl (fs' := [.ref 23, .int 0, .ref 24, .int 0, .int 0, .int 0, .ref 25, .int 0, .int 0, .ref 26, .int 1, .ref 27, .ref 28, .ref 29, .ref 30, .int 0, .int (-1), .ref 31, .ref 32, .ref 33, .ref 34, .ref 35, .ref 36, .ref 37, .ref 38, .int 0, .ref 39, .ref 40, .ref 41, .ref 42, .int 0, .int 0, .int 0, .ref 43, .ref 44, .ref 45, .ref 46, .ref 47, .ref 48, .ref 49, .ref 50, .ref 51, .ref 52, .ref 53, .ref 54, .long 0, .ref 55, .ref 56, .int 0, .ref 57, .ref 58, .ref 59, .long 0, .int 0, .int 0, .int (dy + 1), .int 0, .int 1, .int (-1), .int 1, .int 8, .int 0]) rfl (pc' := 20) rfl (Nat.le_of_ble_eq_true rfl) (Nat.le_of_ble_eq_true rfl) (fun h25 e26 e27 e28 => ?_)
  have c29 := (e27 37 (by decide)).trans c17
  have c30 := (e27 33 (by decide)).trans c18
  have c31 := (e27 34 (by decide)).trans c19
  have c32 := (e27 35 (by decide)).trans c20
  have c33 := (e27 36 (by decide)).trans c21
  have c34 := (e27 31 (by decide)).trans c22
  have fr35 : ∀ q, q ∉ ([22] : List Nat) → h25[q]? = h[q]? := fun q hq => (e27 q (fun z => hq (by rw [z]; decide))).trans (fr23 q (am_sub (by decide) hq))
  have ln36 : h25.length = h.length := e28.trans ln24
  refine am_steps ok_Mo_newDay 2 (x' := (22, [some (.ref 22), some (.int 0)], [], h25, 0, 0)) rfl (Nat.le_of_ble_eq_true rfl) (Nat.le_of_ble_eq_true rfl) ?_
  exact l_nd1 (dy + 1) 0 ps h 65537 0 pd bg wt cm mv h25 (by omega) (by omega) e26 c29 c30 c31 c32 c33 c34 (fun q hq => fr35 q (am_sub (by decide) hq)) ln36
set_option maxHeartbeats 4000000 in
set_option maxRecDepth 100000 in
theorem l_snap (dy tk : Int32) (ps pl : Nat → Int64) (hps : ∀ j, j < 16384 → ps j = 0) (hpl : ∀ j, j < 16384 → pl j = 0) (h0 : am_H) : ∀ (fu i : Nat)  (h : am_H), i ≤ 16384 → 16384 - i < fu → h[22]? = some (.inr (1, mo 0 0 dy tk (-1) 1 8)) → h[31]? = some (.inl (1, 16384, .inr (.inl ps))) → h[32]? = some (.inl (1, 16384, .inr (.inl pl))) → (∀ q, q ∉ ([22] : List Nat) → h[q]? = h0[q]?) → h.length = h0.length → am_S am_Pr none 3 60 0 0 89 (28, [some (.ref 22), some (.int 24), some (.int (nI i))], [], h, 0, 0) (fun r _ => r = some (.int 1)) := by
  intro fu
  induction fu with
  | zero => intro i  h h1 h2; omega
  | succ fu ih =>
    intro i  h hi hm c_22 c_31 c_32 hfr hln
    refine am_steps ok_Mo_snapshot 3 (x' := (if (16384 : Int32) ≤ nI i then 79 else 35, [some (.ref 22), some (.int 24), some (.int (nI i))], [], h, 0, 0)) rfl (Nat.le_of_ble_eq_true rfl) (Nat.le_of_ble_eq_true rfl) ?_
    refine am_if (fun hc1 => ?_) (fun hc1 => ?_)
    · refine am_steps ok_Mo_snapshot 7 (x' := (88, [some (.ref 22), some (.int 24), some (.int 0)], [.int 1, .int 524, .int 0], h, 0, 0)) rfl (Nat.le_of_ble_eq_true rfl) (Nat.le_of_ble_eq_true rfl) ?_
      refine ar_isub ok_Mo_snapshot rfl (w := 523) (by decide +kernel) (pc' := 89) rfl (Nat.le_of_ble_eq_true rfl) (Nat.le_of_ble_eq_true rfl) ?_
      refine am_steps ok_Mo_snapshot 1 (x' := (92, [some (.ref 22), some (.int 24), some (.int 0)], [.int 500, .int 523, .int 0], h, 0, 0)) rfl (Nat.le_of_ble_eq_true rfl) (Nat.le_of_ble_eq_true rfl) ?_
      refine ar_idiv ok_Mo_snapshot rfl (by decide +kernel) (w := 1) (by decide +kernel) (pc' := 93) rfl (Nat.le_of_ble_eq_true rfl) (Nat.le_of_ble_eq_true rfl) ?_
      refine am_steps ok_Mo_snapshot 2 (x' := (97, [some (.ref 22), some (.int 24), some (.int 0)], [.ref 22], h, 0, 0)) rfl (Nat.le_of_ble_eq_true rfl) (Nat.le_of_ble_eq_true rfl) ?_
      refine ar_cv ok_Mo_snapshot hk_Mo_write rfl rfl (As := []) (ad := 22) (rest := []) rfl rfl c_22 (by decide) (m_write dy tk 1 8 h c_22 ) (Nat.le_of_ble_eq_true rfl) (Nat.le_of_ble_eq_true rfl) (Nat.le_of_ble_eq_true rfl) (Nat.le_of_ble_eq_true rfl) (pc' := 100) rfl (fun r2 h3 q4 => ?_)
      obtain ⟨rfl, e5, f6, l7⟩ := q4
      show am_S _ _ _ _ _ _ _ (100, [some (.ref 22), some (.int 24), some (.int 0)], [.int 1], h3, 0, 0) _
      have c8 := (f6 31 (by decide)).trans c_31
      have c9 := (f6 32 (by decide)).trans c_32
      have fr10 : ∀ q, q ∉ ([22] : List Nat) → h3[q]? = h[q]? := fun q hq => f6 q (am_sub (by decide) hq)
      have ln11 : h3.length = h.length := l7
      refine am_steps ok_Mo_snapshot 8 (x' := (88, [some (.ref 22), some (.int 24), some (.int 1)], [.int 1, .int 524, .int 1], h3, 0, 0)) rfl (Nat.le_of_ble_eq_true rfl) (Nat.le_of_ble_eq_true rfl) ?_
      refine ar_isub ok_Mo_snapshot rfl (w := 523) (by decide +kernel) (pc' := 89) rfl (Nat.le_of_ble_eq_true rfl) (Nat.le_of_ble_eq_true rfl) ?_
      refine am_steps ok_Mo_snapshot 1 (x' := (92, [some (.ref 22), some (.int 24), some (.int 1)], [.int 500, .int 523, .int 1], h3, 0, 0)) rfl (Nat.le_of_ble_eq_true rfl) (Nat.le_of_ble_eq_true rfl) ?_
      refine ar_idiv ok_Mo_snapshot rfl (by decide +kernel) (w := 1) (by decide +kernel) (pc' := 93) rfl (Nat.le_of_ble_eq_true rfl) (Nat.le_of_ble_eq_true rfl) ?_
      refine am_steps ok_Mo_snapshot 2 (x' := (97, [some (.ref 22), some (.int 24), some (.int 1)], [.ref 22], h3, 0, 0)) rfl (Nat.le_of_ble_eq_true rfl) (Nat.le_of_ble_eq_true rfl) ?_
      refine ar_cv ok_Mo_snapshot hk_Mo_write rfl rfl (As := []) (ad := 22) (rest := []) rfl rfl e5 (by decide) (m_write dy tk 2 8 h3 e5 ) (Nat.le_of_ble_eq_true rfl) (Nat.le_of_ble_eq_true rfl) (Nat.le_of_ble_eq_true rfl) (Nat.le_of_ble_eq_true rfl) (pc' := 100) rfl (fun r12 h13 q14 => ?_)
      obtain ⟨rfl, e15, f16, l17⟩ := q14
      show am_S _ _ _ _ _ _ _ (100, [some (.ref 22), some (.int 24), some (.int 1)], [.int 1], h13, 0, 0) _
      have c18 := (f16 31 (by decide)).trans c8
      have c19 := (f16 32 (by decide)).trans c9
      have fr20 : ∀ q, q ∉ ([22] : List Nat) → h13[q]? = h[q]? := fun q hq => (f16 q (am_sub (by decide) hq)).trans (fr10 q (am_sub (by decide) hq))
      have ln21 : h13.length = h.length := l17.trans ln11
      refine am_steps ok_Mo_snapshot 8 (x' := (88, [some (.ref 22), some (.int 24), some (.int 2)], [.int 1, .int 524, .int 2], h13, 0, 0)) rfl (Nat.le_of_ble_eq_true rfl) (Nat.le_of_ble_eq_true rfl) ?_
      refine ar_isub ok_Mo_snapshot rfl (w := 523) (by decide +kernel) (pc' := 89) rfl (Nat.le_of_ble_eq_true rfl) (Nat.le_of_ble_eq_true rfl) ?_
      refine am_steps ok_Mo_snapshot 1 (x' := (92, [some (.ref 22), some (.int 24), some (.int 2)], [.int 500, .int 523, .int 2], h13, 0, 0)) rfl (Nat.le_of_ble_eq_true rfl) (Nat.le_of_ble_eq_true rfl) ?_
      refine ar_idiv ok_Mo_snapshot rfl (by decide +kernel) (w := 1) (by decide +kernel) (pc' := 93) rfl (Nat.le_of_ble_eq_true rfl) (Nat.le_of_ble_eq_true rfl) ?_
      refine am_steps ok_Mo_snapshot 3 (x' := (113, [some (.ref 22), some (.int 24), some (.int 2)], [.int 0, .ref 22], h13, 0, 0)) rfl (Nat.le_of_ble_eq_true rfl) (Nat.le_of_ble_eq_true rfl) ?_
      refine ar_put ok_Mo_snapshot rfl e15 (Nat.le_of_ble_eq_true rfl) rfl (fs' := [.ref 23, .int 0, .ref 24, .int 0, .int 0, .int 0, .ref 25, .int 0, .int 0, .ref 26, .int 1, .ref 27, .ref 28, .ref 29, .ref 30, .int 0, .int (-1), .ref 31, .ref 32, .ref 33, .ref 34, .ref 35, .ref 36, .ref 37, .ref 38, .int 0, .ref 39, .ref 40, .ref 41, .ref 42, .int 0, .int 0, .int 0, .ref 43, .ref 44, .ref 45, .ref 46, .ref 47, .ref 48, .ref 49, .ref 50, .ref 51, .ref 52, .ref 53, .ref 54, .long 0, .ref 55, .ref 56, .int 0, .ref 57, .ref 58, .ref 59, .long 0, .int 0, .int 0, .int dy, .int tk, .int 1, .int (-1), .int 3, .int 0, .int 0]) rfl (pc' := 116) rfl (Nat.le_of_ble_eq_true rfl) (Nat.le_of_ble_eq_true rfl) (fun h22 e23 e24 e25 => ?_)
      have c26 := (e24 31 (by decide)).trans c18
      have c27 := (e24 32 (by decide)).trans c19
      have fr28 : ∀ q, q ∉ ([22] : List Nat) → h22[q]? = h[q]? := fun q hq => (e24 q (fun z => hq (by rw [z]; decide))).trans (fr20 q (am_sub (by decide) hq))
      have ln29 : h22.length = h.length := e25.trans ln21
      refine am_steps ok_Mo_snapshot 1 (x' := (117, [some (.ref 22), some (.int 24), some (.int 2)], [.int 1], h22, 0, 0)) rfl (Nat.le_of_ble_eq_true rfl) (Nat.le_of_ble_eq_true rfl) ?_
      exact am_ret ok_Mo_snapshot rfl (Nat.le_of_ble_eq_true rfl) (Nat.le_of_ble_eq_true rfl) rfl
    · have hlt_16384 : i < 16384 := am_nlt (by omega) hc1
      refine am_steps ok_Mo_snapshot 2 (x' := (37, [some (.ref 22), some (.int 24), some (.int (nI i))], [.ref 22, .int 24], h, 0, 0)) rfl (Nat.le_of_ble_eq_true rfl) (Nat.le_of_ble_eq_true rfl) ?_
      refine ar_get ok_Mo_snapshot rfl c_22 (v := .ref 31) rfl (pc' := 40) rfl (Nat.le_of_ble_eq_true rfl) (Nat.le_of_ble_eq_true rfl) ?_
      refine am_steps ok_Mo_snapshot 1 (x' := (41, [some (.ref 22), some (.int 24), some (.int (nI i))], [.int (nI i), .ref 31, .int 24], h, 0, 0)) rfl (Nat.le_of_ble_eq_true rfl) (Nat.le_of_ble_eq_true rfl) ?_
      refine ar_lald ok_Mo_snapshot rfl c_31 (jx := i) (am_ix_nI hlt_16384 (by decide)) (hps i hlt_16384) (pc' := 42) rfl (Nat.le_of_ble_eq_true rfl) (Nat.le_of_ble_eq_true rfl) ?_
      refine am_steps ok_Mo_snapshot 5 (x' := (54, [some (.ref 22), some (.int 24), some (.int (nI i))], [.ref 22, .int 0, .int 24], h, 0, 0)) rfl (Nat.le_of_ble_eq_true rfl) (Nat.le_of_ble_eq_true rfl) ?_
      refine ar_get ok_Mo_snapshot rfl c_22 (v := .ref 32) rfl (pc' := 57) rfl (Nat.le_of_ble_eq_true rfl) (Nat.le_of_ble_eq_true rfl) ?_
      refine am_steps ok_Mo_snapshot 1 (x' := (58, [some (.ref 22), some (.int 24), some (.int (nI i))], [.int (nI i), .ref 32, .int 0, .int 24], h, 0, 0)) rfl (Nat.le_of_ble_eq_true rfl) (Nat.le_of_ble_eq_true rfl) ?_
      refine ar_lald ok_Mo_snapshot rfl c_32 (jx := i) (am_ix_nI hlt_16384 (by decide)) (hpl i hlt_16384) (pc' := 59) rfl (Nat.le_of_ble_eq_true rfl) (Nat.le_of_ble_eq_true rfl) ?_
      refine am_steps ok_Mo_snapshot 9 (x' := (28, [some (.ref 22), some (.int 24), some (.int ((nI i) + 1))], [], h, 0, 0)) rfl (Nat.le_of_ble_eq_true rfl) (Nat.le_of_ble_eq_true rfl) ?_
      rw [nI_1]
      exact ih (i + 1) h (by omega) (by omega) c_22 c_31 c_32 (fun q hq => hfr q hq) (hln)
set_option maxHeartbeats 4000000 in
set_option maxRecDepth 100000 in
theorem m_snap (dy tk : Int32) (ps pl : Nat → Int64) (hps : ∀ j, j < 16384 → ps j = 0) (hpl : ∀ j, j < 16384 → pl j = 0) (h : am_H) (c_22 : h[22]? = some (.inr (1, mo 0 0 dy tk (-1) 1 8))) (c_31 : h[31]? = some (.inl (1, 16384, .inr (.inl ps)))) (c_32 : h[32]? = some (.inl (1, 16384, .inr (.inl pl)))) : am_Me am_Pr none 3 60 0 0 89 [.ref 22] h (fun r _ => r = some (.int 1)) := by
  refine am_enter (d := hd_Mo_snapshot) rfl (by decide +kernel) (Nat.le_of_ble_eq_true rfl) ?_
  show am_S _ _ _ _ _ _ _ (0, [some (.ref 22), none, none], [], h, 0, 0) _
  refine am_steps ok_Mo_snapshot 3 (x' := (4, [some (.ref 22), none, none], [.ref 22, .int 4, .int 20], h, 0, 0)) rfl (Nat.le_of_ble_eq_true rfl) (Nat.le_of_ble_eq_true rfl) ?_
  refine ar_get ok_Mo_snapshot rfl c_22 (v := .int 1) rfl (pc' := 7) rfl (Nat.le_of_ble_eq_true rfl) (Nat.le_of_ble_eq_true rfl) ?_
  refine am_steps ok_Mo_snapshot 4 (x' := (12, [some (.ref 22), none, none], [.ref 22, .int 14, .int 24], h, 0, 0)) rfl (Nat.le_of_ble_eq_true rfl) (Nat.le_of_ble_eq_true rfl) ?_
  refine ar_get ok_Mo_snapshot rfl c_22 (v := .int 0) rfl (pc' := 15) rfl (Nat.le_of_ble_eq_true rfl) (Nat.le_of_ble_eq_true rfl) ?_
  refine am_steps ok_Mo_snapshot 4 (x' := (20, [some (.ref 22), none, none], [.ref 22, .int 12, .int 24], h, 0, 0)) rfl (Nat.le_of_ble_eq_true rfl) (Nat.le_of_ble_eq_true rfl) ?_
  refine ar_get ok_Mo_snapshot rfl c_22 (v := .int 0) rfl (pc' := 23) rfl (Nat.le_of_ble_eq_true rfl) (Nat.le_of_ble_eq_true rfl) ?_
  refine am_steps ok_Mo_snapshot 5 (x' := (28, [some (.ref 22), some (.int 24), some (.int 0)], [], h, 0, 0)) rfl (Nat.le_of_ble_eq_true rfl) (Nat.le_of_ble_eq_true rfl) ?_
  exact l_snap dy tk ps pl hps hpl h 16385 0 h (by omega) (by omega) c_22 c_31 c_32 (fun _ _ => rfl) rfl
set_option maxHeartbeats 4000000 in
set_option maxRecDepth 100000 in
theorem l_mtick (n : Int32) (hn : n.toInt ≤ 1000) (ps pl : Nat → Int64) (hps : ∀ j, j < 16384 → ps j = 0) (hpl : ∀ j, j < 16384 → pl j = 0) : ∀ (fu : Nat) (i b dy tk : Int32) (pd bg wt cm : Nat → Int64) (mv : Nat → Int32) (h : am_H), 0 ≤ i.toInt → (n.toInt - i.toInt).toNat < fu → h[22]? = some (.inr (1, mo 0 0 dy tk (-1) 1 8)) → h[37]? = some (.inl (1, 65536, .inr (.inl pd))) → h[33]? = some (.inl (1, 16384, .inr (.inl bg))) → h[34]? = some (.inl (1, 16384, .inr (.inl wt))) → h[35]? = some (.inl (1, 16384, .inr (.inl cm))) → h[36]? = some (.inl (0, 16384, .inl mv)) → h[31]? = some (.inl (1, 16384, .inr (.inl ps))) → h[32]? = some (.inl (1, 16384, .inr (.inl pl))) → am_S am_Pr none 6 153 0 0 85 (40, [some (.ref 22), some (.int n), some (.int b), some (.int i)], [], h, 0, 0) (fun r _ => r = some (.int 1)) := by
  intro fu
  induction fu with
  | zero => intro i b dy tk pd bg wt cm mv h h1 h2; omega
  | succ fu ih =>
    intro i b dy tk pd bg wt cm mv h hi hm c_22 c_37 c_33 c_34 c_35 c_36 c_31 c_32
    refine am_steps ok_Mo_tick 3 (x' := (if (n : Int32) ≤ i then 125 else 45, [some (.ref 22), some (.int n), some (.int b), some (.int i)], [], h, 0, 0)) rfl (Nat.le_of_ble_eq_true rfl) (Nat.le_of_ble_eq_true rfl) ?_
    refine am_if (fun hc1 => ?_) (fun hc1 => ?_)
    · refine am_steps ok_Mo_tick 2 (x' := (if (b : Int32) = 0 then 140 else 129, [some (.ref 22), some (.int n), some (.int b), some (.int i)], [], h, 0, 0)) rfl (Nat.le_of_ble_eq_true rfl) (Nat.le_of_ble_eq_true rfl) ?_
      refine am_if (fun hc2 => ?_) (fun hc2 => ?_)
      · refine am_steps ok_Mo_tick 1 (x' := (141, [some (.ref 22), some (.int n), some (.int b), some (.int i)], [.int 1], h, 0, 0)) rfl (Nat.le_of_ble_eq_true rfl) (Nat.le_of_ble_eq_true rfl) ?_
        exact am_ret ok_Mo_tick rfl (Nat.le_of_ble_eq_true rfl) (Nat.le_of_ble_eq_true rfl) rfl
      · refine am_steps ok_Mo_tick 1 (x' := (130, [some (.ref 22), some (.int n), some (.int b), some (.int i)], [.ref 22], h, 0, 0)) rfl (Nat.le_of_ble_eq_true rfl) (Nat.le_of_ble_eq_true rfl) ?_
        refine ar_cv ok_Mo_tick hk_Mo_snapshot rfl rfl (As := []) (ad := 22) (rest := []) rfl rfl c_22 (by decide) (m_snap dy tk ps pl hps hpl h c_22 c_31 c_32) (Nat.le_of_ble_eq_true rfl) (Nat.le_of_ble_eq_true rfl) (Nat.le_of_ble_eq_true rfl) (Nat.le_of_ble_eq_true rfl) (pc' := 133) rfl (fun r1 h1 q1 => ?_)
        subst q1
        refine am_steps ok_Mo_tick 2 (x' := (141, [some (.ref 22), some (.int n), some (.int b), some (.int i)], [.int 1], h1, 0, 0)) rfl (Nat.le_of_ble_eq_true rfl) (Nat.le_of_ble_eq_true rfl) ?_
        exact am_ret ok_Mo_tick rfl (Nat.le_of_ble_eq_true rfl) (Nat.le_of_ble_eq_true rfl) rfl
    · refine am_steps ok_Mo_tick 2 (x' := (47, [some (.ref 22), some (.int n), some (.int b), some (.int i)], [.ref 22, .ref 22], h, 0, 0)) rfl (Nat.le_of_ble_eq_true rfl) (Nat.le_of_ble_eq_true rfl) ?_
      refine ar_get ok_Mo_tick rfl c_22 (v := .int tk) rfl (pc' := 50) rfl (Nat.le_of_ble_eq_true rfl) (Nat.le_of_ble_eq_true rfl) ?_
      refine am_steps ok_Mo_tick 2 (x' := (52, [some (.ref 22), some (.int n), some (.int b), some (.int i)], [.int (tk + 1), .ref 22], h, 0, 0)) rfl (Nat.le_of_ble_eq_true rfl) (Nat.le_of_ble_eq_true rfl) ?_
      refine ar_put ok_Mo_tick rfl c_22 (Nat.le_of_ble_eq_true rfl) rfl (fs' := [.ref 23, .int 0, .ref 24, .int 0, .int 0, .int 0, .ref 25, .int 0, .int 0, .ref 26, .int 1, .ref 27, .ref 28, .ref 29, .ref 30, .int 0, .int (-1), .ref 31, .ref 32, .ref 33, .ref 34, .ref 35, .ref 36, .ref 37, .ref 38, .int 0, .ref 39, .ref 40, .ref 41, .ref 42, .int 0, .int 0, .int 0, .ref 43, .ref 44, .ref 45, .ref 46, .ref 47, .ref 48, .ref 49, .ref 50, .ref 51, .ref 52, .ref 53, .ref 54, .long 0, .ref 55, .ref 56, .int 0, .ref 57, .ref 58, .ref 59, .long 0, .int 0, .int 0, .int dy, .int (tk + 1), .int 1, .int (-1), .int 1, .int 8, .int 0]) rfl (pc' := 55) rfl (Nat.le_of_ble_eq_true rfl) (Nat.le_of_ble_eq_true rfl) (fun h3 e4 e5 e6 => ?_)
      have c7 := (e5 37 (by decide)).trans c_37
      have c8 := (e5 33 (by decide)).trans c_33
      have c9 := (e5 34 (by decide)).trans c_34
      have c10 := (e5 35 (by decide)).trans c_35
      have c11 := (e5 36 (by decide)).trans c_36
      have c12 := (e5 31 (by decide)).trans c_31
      have c13 := (e5 32 (by decide)).trans c_32
      have fr14 : ∀ q, q ∉ ([22] : List Nat) → h3[q]? = h[q]? := fun q hq => e5 q (fun z => hq (by rw [z]; decide))
      have ln15 : h3.length = h.length := e6
      refine am_steps ok_Mo_tick 1 (x' := (56, [some (.ref 22), some (.int n), some (.int b), some (.int i)], [.ref 22], h3, 0, 0)) rfl (Nat.le_of_ble_eq_true rfl) (Nat.le_of_ble_eq_true rfl) ?_
      refine ar_get ok_Mo_tick rfl e4 (v := .int (tk + 1)) rfl (pc' := 59) rfl (Nat.le_of_ble_eq_true rfl) (Nat.le_of_ble_eq_true rfl) ?_
      refine am_steps ok_Mo_tick 2 (x' := (if ¬ ((tk + 1) : Int32) = 1000 then 71 else 65, [some (.ref 22), some (.int n), some (.int b), some (.int i)], [], h3, 0, 0)) rfl (Nat.le_of_ble_eq_true rfl) (Nat.le_of_ble_eq_true rfl) ?_
      refine am_if (fun hc16 => ?_) (fun hc16 => ?_)
      · refine am_steps ok_Mo_tick 1 (x' := (72, [some (.ref 22), some (.int n), some (.int b), some (.int i)], [.ref 22], h3, 0, 0)) rfl (Nat.le_of_ble_eq_true rfl) (Nat.le_of_ble_eq_true rfl) ?_
        refine ar_get ok_Mo_tick rfl e4 (v := .int (tk + 1)) rfl (pc' := 75) rfl (Nat.le_of_ble_eq_true rfl) (Nat.le_of_ble_eq_true rfl) ?_
        refine am_steps ok_Mo_tick 2 (x' := (if ((tk + 1) : Int32) < 150 then 105 else 81, [some (.ref 22), some (.int n), some (.int b), some (.int i)], [], h3, 0, 0)) rfl (Nat.le_of_ble_eq_true rfl) (Nat.le_of_ble_eq_true rfl) ?_
        refine am_if (fun hc17 => ?_) (fun hc17 => ?_)
        · refine am_steps ok_Mo_tick 1 (x' := (106, [some (.ref 22), some (.int n), some (.int b), some (.int i)], [.ref 22], h3, 0, 0)) rfl (Nat.le_of_ble_eq_true rfl) (Nat.le_of_ble_eq_true rfl) ?_
          refine ar_get ok_Mo_tick rfl e4 (v := .int (tk + 1)) rfl (pc' := 109) rfl (Nat.le_of_ble_eq_true rfl) (Nat.le_of_ble_eq_true rfl) ?_
          refine am_steps ok_Mo_tick 2 (x' := (if ¬ ((tk + 1) : Int32) = 900 then 119 else 115, [some (.ref 22), some (.int n), some (.int b), some (.int i)], [], h3, 0, 0)) rfl (Nat.le_of_ble_eq_true rfl) (Nat.le_of_ble_eq_true rfl) ?_
          refine am_if (fun hc18 => ?_) (fun hc18 => ?_)
          · refine am_steps ok_Mo_tick 2 (x' := (40, [some (.ref 22), some (.int n), some (.int b), some (.int (i + 1))], [], h3, 0, 0)) rfl (Nat.le_of_ble_eq_true rfl) (Nat.le_of_ble_eq_true rfl) ?_
            have hlt : i.toInt < n.toInt := Int32.lt_iff_toInt_lt.mp (am_le_lt hc1)
            have hi1 := am_inc (i := i) (by omega)
            exact ih (i + 1) b dy (tk + 1) (pd) (bg) (wt) (cm) (mv) h3 (by omega) (by omega) e4 c7 c8 c9 c10 c11 c12 c13
          · refine am_steps ok_Mo_tick 1 (x' := (116, [some (.ref 22), some (.int n), some (.int b), some (.int i)], [.ref 22], h3, 0, 0)) rfl (Nat.le_of_ble_eq_true rfl) (Nat.le_of_ble_eq_true rfl) ?_
            refine ar_cv ok_Mo_tick hk_Mo_endDay rfl rfl (As := []) (ad := 22) (rest := []) rfl rfl e4 (by decide) (m_endDay dy ((tk + 1)) h3 e4 ) (Nat.le_of_ble_eq_true rfl) (Nat.le_of_ble_eq_true rfl) (Nat.le_of_ble_eq_true rfl) (Nat.le_of_ble_eq_true rfl) (pc' := 119) rfl (fun r19 h20 q21 => ?_)
            obtain ⟨rfl, e22, f23, l24⟩ := q21
            show am_S _ _ _ _ _ _ _ (119, [some (.ref 22), some (.int n), some (.int b), some (.int i)], [], h20, 0, 0) _
            have c25 := (f23 37 (by decide)).trans c7
            have c26 := (f23 33 (by decide)).trans c8
            have c27 := (f23 34 (by decide)).trans c9
            have c28 := (f23 35 (by decide)).trans c10
            have c29 := (f23 36 (by decide)).trans c11
            have c30 := (f23 31 (by decide)).trans c12
            have c31 := (f23 32 (by decide)).trans c13
            have fr32 : ∀ q, q ∉ ([22] : List Nat) → h20[q]? = h[q]? := fun q hq => (f23 q (am_sub (by decide) hq)).trans (fr14 q (am_sub (by decide) hq))
            have ln33 : h20.length = h.length := l24.trans ln15
            refine am_steps ok_Mo_tick 2 (x' := (40, [some (.ref 22), some (.int n), some (.int b), some (.int (i + 1))], [], h20, 0, 0)) rfl (Nat.le_of_ble_eq_true rfl) (Nat.le_of_ble_eq_true rfl) ?_
            have hlt : i.toInt < n.toInt := Int32.lt_iff_toInt_lt.mp (am_le_lt hc1)
            have hi1 := am_inc (i := i) (by omega)
            exact ih (i + 1) b dy (tk + 1) (pd) (bg) (wt) (cm) (mv) h20 (by omega) (by omega) e22 c25 c26 c27 c28 c29 c30 c31
        · refine am_steps ok_Mo_tick 1 (x' := (82, [some (.ref 22), some (.int n), some (.int b), some (.int i)], [.ref 22], h3, 0, 0)) rfl (Nat.le_of_ble_eq_true rfl) (Nat.le_of_ble_eq_true rfl) ?_
          refine ar_get ok_Mo_tick rfl e4 (v := .int (tk + 1)) rfl (pc' := 85) rfl (Nat.le_of_ble_eq_true rfl) (Nat.le_of_ble_eq_true rfl) ?_
          refine am_steps ok_Mo_tick 2 (x' := (if (900 : Int32) < (tk + 1) then 105 else 91, [some (.ref 22), some (.int n), some (.int b), some (.int i)], [], h3, 0, 0)) rfl (Nat.le_of_ble_eq_true rfl) (Nat.le_of_ble_eq_true rfl) ?_
          refine am_if (fun hc34 => ?_) (fun hc34 => ?_)
          · refine am_steps ok_Mo_tick 1 (x' := (106, [some (.ref 22), some (.int n), some (.int b), some (.int i)], [.ref 22], h3, 0, 0)) rfl (Nat.le_of_ble_eq_true rfl) (Nat.le_of_ble_eq_true rfl) ?_
            refine ar_get ok_Mo_tick rfl e4 (v := .int (tk + 1)) rfl (pc' := 109) rfl (Nat.le_of_ble_eq_true rfl) (Nat.le_of_ble_eq_true rfl) ?_
            refine am_steps ok_Mo_tick 2 (x' := (if ¬ ((tk + 1) : Int32) = 900 then 119 else 115, [some (.ref 22), some (.int n), some (.int b), some (.int i)], [], h3, 0, 0)) rfl (Nat.le_of_ble_eq_true rfl) (Nat.le_of_ble_eq_true rfl) ?_
            refine am_if (fun hc35 => ?_) (fun hc35 => ?_)
            · refine am_steps ok_Mo_tick 2 (x' := (40, [some (.ref 22), some (.int n), some (.int b), some (.int (i + 1))], [], h3, 0, 0)) rfl (Nat.le_of_ble_eq_true rfl) (Nat.le_of_ble_eq_true rfl) ?_
              have hlt : i.toInt < n.toInt := Int32.lt_iff_toInt_lt.mp (am_le_lt hc1)
              have hi1 := am_inc (i := i) (by omega)
              exact ih (i + 1) b dy (tk + 1) (pd) (bg) (wt) (cm) (mv) h3 (by omega) (by omega) e4 c7 c8 c9 c10 c11 c12 c13
            · refine am_steps ok_Mo_tick 1 (x' := (116, [some (.ref 22), some (.int n), some (.int b), some (.int i)], [.ref 22], h3, 0, 0)) rfl (Nat.le_of_ble_eq_true rfl) (Nat.le_of_ble_eq_true rfl) ?_
              refine ar_cv ok_Mo_tick hk_Mo_endDay rfl rfl (As := []) (ad := 22) (rest := []) rfl rfl e4 (by decide) (m_endDay dy ((tk + 1)) h3 e4 ) (Nat.le_of_ble_eq_true rfl) (Nat.le_of_ble_eq_true rfl) (Nat.le_of_ble_eq_true rfl) (Nat.le_of_ble_eq_true rfl) (pc' := 119) rfl (fun r36 h37 q38 => ?_)
              obtain ⟨rfl, e39, f40, l41⟩ := q38
              show am_S _ _ _ _ _ _ _ (119, [some (.ref 22), some (.int n), some (.int b), some (.int i)], [], h37, 0, 0) _
              have c42 := (f40 37 (by decide)).trans c7
              have c43 := (f40 33 (by decide)).trans c8
              have c44 := (f40 34 (by decide)).trans c9
              have c45 := (f40 35 (by decide)).trans c10
              have c46 := (f40 36 (by decide)).trans c11
              have c47 := (f40 31 (by decide)).trans c12
              have c48 := (f40 32 (by decide)).trans c13
              have fr49 : ∀ q, q ∉ ([22] : List Nat) → h37[q]? = h[q]? := fun q hq => (f40 q (am_sub (by decide) hq)).trans (fr14 q (am_sub (by decide) hq))
              have ln50 : h37.length = h.length := l41.trans ln15
              refine am_steps ok_Mo_tick 2 (x' := (40, [some (.ref 22), some (.int n), some (.int b), some (.int (i + 1))], [], h37, 0, 0)) rfl (Nat.le_of_ble_eq_true rfl) (Nat.le_of_ble_eq_true rfl) ?_
              have hlt : i.toInt < n.toInt := Int32.lt_iff_toInt_lt.mp (am_le_lt hc1)
              have hi1 := am_inc (i := i) (by omega)
              exact ih (i + 1) b dy (tk + 1) (pd) (bg) (wt) (cm) (mv) h37 (by omega) (by omega) e39 c42 c43 c44 c45 c46 c47 c48
          · refine am_steps ok_Mo_tick 1 (x' := (92, [some (.ref 22), some (.int n), some (.int b), some (.int i)], [.ref 22], h3, 0, 0)) rfl (Nat.le_of_ble_eq_true rfl) (Nat.le_of_ble_eq_true rfl) ?_
            refine ar_get ok_Mo_tick rfl e4 (v := .int (tk + 1)) rfl (pc' := 95) rfl (Nat.le_of_ble_eq_true rfl) (Nat.le_of_ble_eq_true rfl) ?_
            refine am_steps ok_Mo_tick 1 (x' := (97, [some (.ref 22), some (.int n), some (.int b), some (.int i)], [.int 50, .int (tk + 1)], h3, 0, 0)) rfl (Nat.le_of_ble_eq_true rfl) (Nat.le_of_ble_eq_true rfl) ?_
            refine ar_irem ok_Mo_tick rfl (by decide +kernel) (w := ((tk + 1) - (tk + 1) / 50 * 50)) rfl (pc' := 98) rfl (Nat.le_of_ble_eq_true rfl) (Nat.le_of_ble_eq_true rfl) ?_
            refine am_steps ok_Mo_tick 1 (x' := (if ¬ (((tk + 1) - (tk + 1) / 50 * 50) : Int32) = 0 then 105 else 101, [some (.ref 22), some (.int n), some (.int b), some (.int i)], [], h3, 0, 0)) rfl (Nat.le_of_ble_eq_true rfl) (Nat.le_of_ble_eq_true rfl) ?_
            refine am_if (fun hc51 => ?_) (fun hc51 => ?_)
            · refine am_steps ok_Mo_tick 1 (x' := (106, [some (.ref 22), some (.int n), some (.int b), some (.int i)], [.ref 22], h3, 0, 0)) rfl (Nat.le_of_ble_eq_true rfl) (Nat.le_of_ble_eq_true rfl) ?_
              refine ar_get ok_Mo_tick rfl e4 (v := .int (tk + 1)) rfl (pc' := 109) rfl (Nat.le_of_ble_eq_true rfl) (Nat.le_of_ble_eq_true rfl) ?_
              refine am_steps ok_Mo_tick 2 (x' := (if ¬ ((tk + 1) : Int32) = 900 then 119 else 115, [some (.ref 22), some (.int n), some (.int b), some (.int i)], [], h3, 0, 0)) rfl (Nat.le_of_ble_eq_true rfl) (Nat.le_of_ble_eq_true rfl) ?_
              refine am_if (fun hc52 => ?_) (fun hc52 => ?_)
              · refine am_steps ok_Mo_tick 2 (x' := (40, [some (.ref 22), some (.int n), some (.int b), some (.int (i + 1))], [], h3, 0, 0)) rfl (Nat.le_of_ble_eq_true rfl) (Nat.le_of_ble_eq_true rfl) ?_
                have hlt : i.toInt < n.toInt := Int32.lt_iff_toInt_lt.mp (am_le_lt hc1)
                have hi1 := am_inc (i := i) (by omega)
                exact ih (i + 1) b dy (tk + 1) (pd) (bg) (wt) (cm) (mv) h3 (by omega) (by omega) e4 c7 c8 c9 c10 c11 c12 c13
              · refine am_steps ok_Mo_tick 1 (x' := (116, [some (.ref 22), some (.int n), some (.int b), some (.int i)], [.ref 22], h3, 0, 0)) rfl (Nat.le_of_ble_eq_true rfl) (Nat.le_of_ble_eq_true rfl) ?_
                refine ar_cv ok_Mo_tick hk_Mo_endDay rfl rfl (As := []) (ad := 22) (rest := []) rfl rfl e4 (by decide) (m_endDay dy ((tk + 1)) h3 e4 ) (Nat.le_of_ble_eq_true rfl) (Nat.le_of_ble_eq_true rfl) (Nat.le_of_ble_eq_true rfl) (Nat.le_of_ble_eq_true rfl) (pc' := 119) rfl (fun r53 h54 q55 => ?_)
                obtain ⟨rfl, e56, f57, l58⟩ := q55
                show am_S _ _ _ _ _ _ _ (119, [some (.ref 22), some (.int n), some (.int b), some (.int i)], [], h54, 0, 0) _
                have c59 := (f57 37 (by decide)).trans c7
                have c60 := (f57 33 (by decide)).trans c8
                have c61 := (f57 34 (by decide)).trans c9
                have c62 := (f57 35 (by decide)).trans c10
                have c63 := (f57 36 (by decide)).trans c11
                have c64 := (f57 31 (by decide)).trans c12
                have c65 := (f57 32 (by decide)).trans c13
                have fr66 : ∀ q, q ∉ ([22] : List Nat) → h54[q]? = h[q]? := fun q hq => (f57 q (am_sub (by decide) hq)).trans (fr14 q (am_sub (by decide) hq))
                have ln67 : h54.length = h.length := l58.trans ln15
                refine am_steps ok_Mo_tick 2 (x' := (40, [some (.ref 22), some (.int n), some (.int b), some (.int (i + 1))], [], h54, 0, 0)) rfl (Nat.le_of_ble_eq_true rfl) (Nat.le_of_ble_eq_true rfl) ?_
                have hlt : i.toInt < n.toInt := Int32.lt_iff_toInt_lt.mp (am_le_lt hc1)
                have hi1 := am_inc (i := i) (by omega)
                exact ih (i + 1) b dy (tk + 1) (pd) (bg) (wt) (cm) (mv) h54 (by omega) (by omega) e56 c59 c60 c61 c62 c63 c64 c65
            · refine am_steps ok_Mo_tick 1 (x' := (102, [some (.ref 22), some (.int n), some (.int b), some (.int i)], [.ref 22], h3, 0, 0)) rfl (Nat.le_of_ble_eq_true rfl) (Nat.le_of_ble_eq_true rfl) ?_
              refine ar_cv ok_Mo_tick hk_Mo_resolve rfl rfl (As := []) (ad := 22) (rest := []) rfl rfl e4 (by decide) (m_resolve dy ((tk + 1)) h3 e4 ) (Nat.le_of_ble_eq_true rfl) (Nat.le_of_ble_eq_true rfl) (Nat.le_of_ble_eq_true rfl) (Nat.le_of_ble_eq_true rfl) (pc' := 105) rfl (fun r68 h69 q70 => ?_)
              obtain ⟨rfl, e71, f72, l73⟩ := q70
              show am_S _ _ _ _ _ _ _ (105, [some (.ref 22), some (.int n), some (.int b), some (.int i)], [], h69, 0, 0) _
              have c74 := (f72 37 (by decide)).trans c7
              have c75 := (f72 33 (by decide)).trans c8
              have c76 := (f72 34 (by decide)).trans c9
              have c77 := (f72 35 (by decide)).trans c10
              have c78 := (f72 36 (by decide)).trans c11
              have c79 := (f72 31 (by decide)).trans c12
              have c80 := (f72 32 (by decide)).trans c13
              have fr81 : ∀ q, q ∉ ([22] : List Nat) → h69[q]? = h[q]? := fun q hq => (f72 q (am_sub (by decide) hq)).trans (fr14 q (am_sub (by decide) hq))
              have ln82 : h69.length = h.length := l73.trans ln15
              refine am_steps ok_Mo_tick 1 (x' := (106, [some (.ref 22), some (.int n), some (.int b), some (.int i)], [.ref 22], h69, 0, 0)) rfl (Nat.le_of_ble_eq_true rfl) (Nat.le_of_ble_eq_true rfl) ?_
              refine ar_get ok_Mo_tick rfl e71 (v := .int (tk + 1)) rfl (pc' := 109) rfl (Nat.le_of_ble_eq_true rfl) (Nat.le_of_ble_eq_true rfl) ?_
              refine am_steps ok_Mo_tick 2 (x' := (if ¬ ((tk + 1) : Int32) = 900 then 119 else 115, [some (.ref 22), some (.int n), some (.int b), some (.int i)], [], h69, 0, 0)) rfl (Nat.le_of_ble_eq_true rfl) (Nat.le_of_ble_eq_true rfl) ?_
              refine am_if (fun hc83 => ?_) (fun hc83 => ?_)
              · refine am_steps ok_Mo_tick 2 (x' := (40, [some (.ref 22), some (.int n), some (.int b), some (.int (i + 1))], [], h69, 0, 0)) rfl (Nat.le_of_ble_eq_true rfl) (Nat.le_of_ble_eq_true rfl) ?_
                have hlt : i.toInt < n.toInt := Int32.lt_iff_toInt_lt.mp (am_le_lt hc1)
                have hi1 := am_inc (i := i) (by omega)
                exact ih (i + 1) b dy (tk + 1) (pd) (bg) (wt) (cm) (mv) h69 (by omega) (by omega) e71 c74 c75 c76 c77 c78 c79 c80
              · refine am_steps ok_Mo_tick 1 (x' := (116, [some (.ref 22), some (.int n), some (.int b), some (.int i)], [.ref 22], h69, 0, 0)) rfl (Nat.le_of_ble_eq_true rfl) (Nat.le_of_ble_eq_true rfl) ?_
                refine ar_cv ok_Mo_tick hk_Mo_endDay rfl rfl (As := []) (ad := 22) (rest := []) rfl rfl e71 (by decide) (m_endDay dy ((tk + 1)) h69 e71 ) (Nat.le_of_ble_eq_true rfl) (Nat.le_of_ble_eq_true rfl) (Nat.le_of_ble_eq_true rfl) (Nat.le_of_ble_eq_true rfl) (pc' := 119) rfl (fun r84 h85 q86 => ?_)
                obtain ⟨rfl, e87, f88, l89⟩ := q86
                show am_S _ _ _ _ _ _ _ (119, [some (.ref 22), some (.int n), some (.int b), some (.int i)], [], h85, 0, 0) _
                have c90 := (f88 37 (by decide)).trans c74
                have c91 := (f88 33 (by decide)).trans c75
                have c92 := (f88 34 (by decide)).trans c76
                have c93 := (f88 35 (by decide)).trans c77
                have c94 := (f88 36 (by decide)).trans c78
                have c95 := (f88 31 (by decide)).trans c79
                have c96 := (f88 32 (by decide)).trans c80
                have fr97 : ∀ q, q ∉ ([22] : List Nat) → h85[q]? = h[q]? := fun q hq => (f88 q (am_sub (by decide) hq)).trans (fr81 q (am_sub (by decide) hq))
                have ln98 : h85.length = h.length := l89.trans ln82
                refine am_steps ok_Mo_tick 2 (x' := (40, [some (.ref 22), some (.int n), some (.int b), some (.int (i + 1))], [], h85, 0, 0)) rfl (Nat.le_of_ble_eq_true rfl) (Nat.le_of_ble_eq_true rfl) ?_
                have hlt : i.toInt < n.toInt := Int32.lt_iff_toInt_lt.mp (am_le_lt hc1)
                have hi1 := am_inc (i := i) (by omega)
                exact ih (i + 1) b dy (tk + 1) (pd) (bg) (wt) (cm) (mv) h85 (by omega) (by omega) e87 c90 c91 c92 c93 c94 c95 c96
      · refine am_steps ok_Mo_tick 1 (x' := (66, [some (.ref 22), some (.int n), some (.int b), some (.int i)], [.ref 22], h3, 0, 0)) rfl (Nat.le_of_ble_eq_true rfl) (Nat.le_of_ble_eq_true rfl) ?_
        refine ar_cv ok_Mo_tick hk_Mo_newDay rfl rfl (As := []) (ad := 22) (rest := []) rfl rfl e4 (by decide) (m_newDay dy (tk + 1) ps (pd) (bg) (wt) (cm) (mv) h3 e4 c7 c8 c9 c10 c11 c12) (Nat.le_of_ble_eq_true rfl) (Nat.le_of_ble_eq_true rfl) (Nat.le_of_ble_eq_true rfl) (Nat.le_of_ble_eq_true rfl) (pc' := 69) rfl (fun r99 h100 q101 => ?_)
        obtain ⟨pd2, bg2, wt2, cm2, mv2, rfl, e102, e103, e104, e105, e106, e107, f108, l109⟩ := q101
        show am_S _ _ _ _ _ _ _ (69, [some (.ref 22), some (.int n), some (.int b), some (.int i)], [], h100, 0, 0) _
        have c110 := (f108 31 (by decide)).trans c12
        have c111 := (f108 32 (by decide)).trans c13
        have fr112 : ∀ q, q ∉ ([22, 37, 33, 34, 35, 36] : List Nat) → h100[q]? = h[q]? := fun q hq => (f108 q (am_sub (by decide) hq)).trans (fr14 q (am_sub (by decide) hq))
        have ln113 : h100.length = h.length := l109.trans ln15
        refine am_steps ok_Mo_tick 3 (x' := (72, [some (.ref 22), some (.int n), some (.int 1), some (.int i)], [.ref 22], h100, 0, 0)) rfl (Nat.le_of_ble_eq_true rfl) (Nat.le_of_ble_eq_true rfl) ?_
        refine ar_get ok_Mo_tick rfl e102 (v := .int 0) rfl (pc' := 75) rfl (Nat.le_of_ble_eq_true rfl) (Nat.le_of_ble_eq_true rfl) ?_
        refine am_steps ok_Mo_tick 3 (x' := (106, [some (.ref 22), some (.int n), some (.int 1), some (.int i)], [.ref 22], h100, 0, 0)) rfl (Nat.le_of_ble_eq_true rfl) (Nat.le_of_ble_eq_true rfl) ?_
        refine ar_get ok_Mo_tick rfl e102 (v := .int 0) rfl (pc' := 109) rfl (Nat.le_of_ble_eq_true rfl) (Nat.le_of_ble_eq_true rfl) ?_
        refine am_steps ok_Mo_tick 4 (x' := (40, [some (.ref 22), some (.int n), some (.int 1), some (.int (i + 1))], [], h100, 0, 0)) rfl (Nat.le_of_ble_eq_true rfl) (Nat.le_of_ble_eq_true rfl) ?_
        have hlt : i.toInt < n.toInt := Int32.lt_iff_toInt_lt.mp (am_le_lt hc1)
        have hi1 := am_inc (i := i) (by omega)
        exact ih (i + 1) 1 (dy + 1) 0 (pd2) (bg2) (wt2) (cm2) (mv2) h100 (by omega) (by omega) e102 e103 e104 e105 e106 e107 c110 c111
set_option maxHeartbeats 4000000 in
set_option maxRecDepth 100000 in
theorem u_tick (n : Int32) (pd : Nat → Int64) (bg : Nat → Int64) (wt : Nat → Int64) (cm : Nat → Int64) (mv : Nat → Int32) (ps : Nat → Int64) (pl : Nat → Int64) (h : am_H) (c_22 : h[22]? = some (.inr (1, mo 0 0 0 0 (-1) 0 0))) (c_31 : h[31]? = some (.inl (1, 16384, .inr (.inl ps)))) (c_32 : h[32]? = some (.inl (1, 16384, .inr (.inl pl)))) (c_37 : h[37]? = some (.inl (1, 65536, .inr (.inl pd)))) (c_33 : h[33]? = some (.inl (1, 16384, .inr (.inl bg)))) (c_34 : h[34]? = some (.inl (1, 16384, .inr (.inl wt)))) (c_35 : h[35]? = some (.inl (1, 16384, .inr (.inl cm)))) (c_36 : h[36]? = some (.inl (0, 16384, .inl mv))) (hps : ∀ j, j < 16384 → ps j = 0) (hpl : ∀ j, j < 16384 → pl j = 0) : am_Me am_Pr none 6 153 0 0 85 [.ref 22, .int n] h (fun r h' => r = some (.int (am_tk n))) := by
  refine am_enter (d := hd_Mo_tick) rfl (by decide +kernel) (Nat.le_of_ble_eq_true rfl) ?_
  show am_S _ _ _ _ _ _ _ (0, [some (.ref 22), some (.int n), none, none], [], h, 0, 0) _
  refine am_steps ok_Mo_tick 1 (x' := (1, [some (.ref 22), some (.int n), none, none], [.ref 22], h, 0, 0)) rfl (Nat.le_of_ble_eq_true rfl) (Nat.le_of_ble_eq_true rfl) ?_
  refine ar_get ok_Mo_tick rfl c_22 (v := .int 1) rfl (pc' := 4) rfl (Nat.le_of_ble_eq_true rfl) (Nat.le_of_ble_eq_true rfl) ?_
  refine am_steps ok_Mo_tick 4 (x' := (if (n : Int32) < 1 then 19 else 12, [some (.ref 22), some (.int n), none, none], [], h, 0, 0)) rfl (Nat.le_of_ble_eq_true rfl) (Nat.le_of_ble_eq_true rfl) ?_
  refine am_if (fun hc1 => ?_) (fun hc1 => ?_)
  · refine am_steps ok_Mo_tick 1 (x' := (20, [some (.ref 22), some (.int n), none, none], [.int 0], h, 0, 0)) rfl (Nat.le_of_ble_eq_true rfl) (Nat.le_of_ble_eq_true rfl) ?_
    exact am_ret ok_Mo_tick rfl (Nat.le_of_ble_eq_true rfl) (Nat.le_of_ble_eq_true rfl) (by unfold am_tk; rw [if_pos hc1])
  · refine am_steps ok_Mo_tick 3 (x' := (if (n : Int32) ≤ 1000 then 21 else 19, [some (.ref 22), some (.int n), none, none], [], h, 0, 0)) rfl (Nat.le_of_ble_eq_true rfl) (Nat.le_of_ble_eq_true rfl) ?_
    refine am_if (fun hc2 => ?_) (fun hc2 => ?_)
    · refine am_steps ok_Mo_tick 1 (x' := (22, [some (.ref 22), some (.int n), none, none], [.ref 22], h, 0, 0)) rfl (Nat.le_of_ble_eq_true rfl) (Nat.le_of_ble_eq_true rfl) ?_
      refine ar_cv ok_Mo_tick hk_Mo_silence rfl rfl (As := []) (ad := 22) (rest := []) rfl rfl c_22 (by decide) (m_silence 0 0 h c_22 ) (Nat.le_of_ble_eq_true rfl) (Nat.le_of_ble_eq_true rfl) (Nat.le_of_ble_eq_true rfl) (Nat.le_of_ble_eq_true rfl) (pc' := 25) rfl (fun r3 h4 q5 => ?_)
      obtain ⟨rfl, e6, f7, l8⟩ := q5
      show am_S _ _ _ _ _ _ _ (25, [some (.ref 22), some (.int n), none, none], [], h4, 0, 0) _
      have c9 := (f7 31 (by decide)).trans c_31
      have c10 := (f7 32 (by decide)).trans c_32
      have c11 := (f7 37 (by decide)).trans c_37
      have c12 := (f7 33 (by decide)).trans c_33
      have c13 := (f7 34 (by decide)).trans c_34
      have c14 := (f7 35 (by decide)).trans c_35
      have c15 := (f7 36 (by decide)).trans c_36
      have fr16 : ∀ q, q ∉ ([22] : List Nat) → h4[q]? = h[q]? := fun q hq => f7 q (am_sub (by decide) hq)
      have ln17 : h4.length = h.length := l8
      refine am_steps ok_Mo_tick 2 (x' := (28, [some (.ref 22), some (.int n), none, none], [.int 8, .ref 22], h4, 0, 0)) rfl (Nat.le_of_ble_eq_true rfl) (Nat.le_of_ble_eq_true rfl) ?_
      refine ar_cv ok_Mo_tick hk_Mo_record rfl rfl (As := [.int 8]) (ad := 22) (rest := []) rfl rfl e6 (by decide) (m_record 0 0 h4 e6 ) (Nat.le_of_ble_eq_true rfl) (Nat.le_of_ble_eq_true rfl) (Nat.le_of_ble_eq_true rfl) (Nat.le_of_ble_eq_true rfl) (pc' := 31) rfl (fun r18 h19 q20 => ?_)
      obtain ⟨rfl, e21, f22, l23⟩ := q20
      show am_S _ _ _ _ _ _ _ (31, [some (.ref 22), some (.int n), none, none], [.int 1], h19, 0, 0) _
      have c24 := (f22 31 (by decide)).trans c9
      have c25 := (f22 32 (by decide)).trans c10
      have c26 := (f22 37 (by decide)).trans c11
      have c27 := (f22 33 (by decide)).trans c12
      have c28 := (f22 34 (by decide)).trans c13
      have c29 := (f22 35 (by decide)).trans c14
      have c30 := (f22 36 (by decide)).trans c15
      have fr31 : ∀ q, q ∉ ([22] : List Nat) → h19[q]? = h[q]? := fun q hq => (f22 q (am_sub (by decide) hq)).trans (fr16 q (am_sub (by decide) hq))
      have ln32 : h19.length = h.length := l23.trans ln17
      refine am_steps ok_Mo_tick 5 (x' := (40, [some (.ref 22), some (.int n), some (.int 0), some (.int 0)], [], h19, 0, 0)) rfl (Nat.le_of_ble_eq_true rfl) (Nat.le_of_ble_eq_true rfl) ?_
      have hz := l_mtick n (Int32.le_iff_toInt_le.mp hc2) ps pl hps hpl (n.toInt.toNat + 1) 0 0 0 0 pd bg wt cm mv h19 (by decide) (by rw [show (0 : Int32).toInt = 0 from by decide]; omega) e21 c26 c27 c28 c29 c30 c24 c25
      refine am_conseq hz (fun r h' q => ?_)
      rw [q]; unfold am_tk; rw [if_neg hc1, if_pos hc2]
    · refine am_steps ok_Mo_tick 1 (x' := (20, [some (.ref 22), some (.int n), none, none], [.int 0], h, 0, 0)) rfl (Nat.le_of_ble_eq_true rfl) (Nat.le_of_ble_eq_true rfl) ?_
      exact am_ret ok_Mo_tick rfl (Nat.le_of_ble_eq_true rfl) (Nat.le_of_ble_eq_true rfl) (by unfold am_tk; rw [if_neg hc1, if_neg hc2])
