/-! The objects on their fresh state. -/
set_option maxHeartbeats 4000000 in
set_option maxRecDepth 100000 in
theorem c_tnext  (h : am_H) (c_7 : h[7]? = some (.inr (2, [.ref 8, .int 0, .int 0])))  : am_Me am_Pr none 1 21 0 0 98 [.ref 7] h (fun r h' => r = some (.long 0) ∧ (∀ q, q ∉ ([] : List Nat) → h'[q]? = h[q]?) ∧ h'.length = h.length) := by
  refine am_enter (d := hd_An_takeNext) rfl (by decide +kernel) (Nat.le_of_ble_eq_true rfl) ?_
  show am_S _ _ _ _ _ _ _ (0, [some (.ref 7), none, none, none, none], [], h, 0, 0) _
  refine am_steps ok_An_takeNext 1 (x' := (1, [some (.ref 7), none, none, none, none], [.ref 7], h, 0, 0)) rfl (Nat.le_of_ble_eq_true rfl) (Nat.le_of_ble_eq_true rfl) ?_
  refine ar_get ok_An_takeNext rfl c_7 (v := .int 0) rfl (pc' := 4) rfl (Nat.le_of_ble_eq_true rfl) (Nat.le_of_ble_eq_true rfl) ?_
  refine am_steps ok_An_takeNext 1 (x' := (5, [some (.ref 7), none, none, none, none], [.ref 7, .int 0], h, 0, 0)) rfl (Nat.le_of_ble_eq_true rfl) (Nat.le_of_ble_eq_true rfl) ?_
  refine ar_get ok_An_takeNext rfl c_7 (v := .int 0) rfl (pc' := 8) rfl (Nat.le_of_ble_eq_true rfl) (Nat.le_of_ble_eq_true rfl) ?_
  refine ar_isub ok_An_takeNext rfl (w := 0) (by decide +kernel) (pc' := 9) rfl (Nat.le_of_ble_eq_true rfl) (Nat.le_of_ble_eq_true rfl) ?_
  refine am_steps ok_An_takeNext 1 (x' := (11, [some (.ref 7), none, none, none, none], [.int 7, .int 0], h, 0, 0)) rfl (Nat.le_of_ble_eq_true rfl) (Nat.le_of_ble_eq_true rfl) ?_
  refine ar_min ok_An_takeNext rfl (w := 0) rfl (Nat.le_of_ble_eq_true rfl) (Nat.le_of_ble_eq_true rfl) (Nat.le_of_ble_eq_true rfl) (Nat.le_of_ble_eq_true rfl) (pc' := 14) rfl ?_
  refine am_steps ok_An_takeNext 4 (x' := (20, [some (.ref 7), some (.int 0), none, none, none], [.long 0], h, 0, 0)) rfl (Nat.le_of_ble_eq_true rfl) (Nat.le_of_ble_eq_true rfl) ?_
  exact am_ret ok_An_takeNext rfl (Nat.le_of_ble_eq_true rfl) (Nat.le_of_ble_eq_true rfl) ⟨rfl, fun _ _ => rfl, rfl⟩
set_option maxHeartbeats 4000000 in
set_option maxRecDepth 100000 in
theorem c_anclear  (h : am_H) (c_7 : h[7]? = some (.inr (2, [.ref 8, .int 0, .int 0])))  : am_Me am_Pr none 0 0 0 0 97 [.ref 7] h (fun r h' => r = none ∧ h'[7]? = some (.inr (2, [.ref 8, .int 0, .int 0])) ∧ (∀ q, q ∉ ([7] : List Nat) → h'[q]? = h[q]?) ∧ h'.length = h.length) := by
  refine am_enter (d := hd_An_clear) rfl (by decide +kernel) (Nat.le_of_ble_eq_true rfl) ?_
  show am_S _ _ _ _ _ _ _ (0, [some (.ref 7)], [], h, 0, 0) _
  refine am_steps ok_An_clear 2 (x' := (2, [some (.ref 7)], [.int 0, .ref 7], h, 0, 0)) rfl (Nat.le_of_ble_eq_true rfl) (Nat.le_of_ble_eq_true rfl) ?_
  refine ar_put ok_An_clear rfl c_7 (Nat.le_of_ble_eq_true rfl) rfl (fs' := [.ref 8, .int 0, .int 0]) rfl (pc' := 5) rfl (Nat.le_of_ble_eq_true rfl) (Nat.le_of_ble_eq_true rfl) (fun h1 e2 e3 e4 => ?_)
  have fr5 : ∀ q, q ∉ ([7] : List Nat) → h1[q]? = h[q]? := fun q hq => e3 q (fun z => hq (by rw [z]; decide))
  have ln6 : h1.length = h.length := e4
  refine am_steps ok_An_clear 2 (x' := (7, [some (.ref 7)], [.int 0, .ref 7], h1, 0, 0)) rfl (Nat.le_of_ble_eq_true rfl) (Nat.le_of_ble_eq_true rfl) ?_
  refine ar_put ok_An_clear rfl e2 (Nat.le_of_ble_eq_true rfl) rfl (fs' := [.ref 8, .int 0, .int 0]) rfl (pc' := 10) rfl (Nat.le_of_ble_eq_true rfl) (Nat.le_of_ble_eq_true rfl) (fun h7 e8 e9 e10 => ?_)
  have fr11 : ∀ q, q ∉ ([7] : List Nat) → h7[q]? = h[q]? := fun q hq => (e9 q (fun z => hq (by rw [z]; decide))).trans (fr5 q (am_sub (by decide) hq))
  have ln12 : h7.length = h.length := e10.trans ln6
  exact am_ret ok_An_clear rfl (Nat.le_of_ble_eq_true rfl) (Nat.le_of_ble_eq_true rfl) ⟨rfl, e8, fun q hq => fr11 q (am_sub (by decide) hq), ln12⟩
set_option maxHeartbeats 4000000 in
set_option maxRecDepth 100000 in
theorem c_wblock (w : Int32) (j : Int32) (h : am_H) (c_9 : h[9]? = some (.inr (6, [.int 1, .int (-1), .int w, .int j])))  : am_Me am_Pr none 0 0 0 0 163 [.ref 9] h (fun r h' => r = some (.int 1) ∧ h'[9]? = some (.inr (6, [.int 1, .int (-1), .int (w + 1), .int j])) ∧ (∀ q, q ∉ ([9] : List Nat) → h'[q]? = h[q]?) ∧ h'.length = h.length) := by
  refine am_enter (d := hd_Di_writeBlock) rfl (by decide +kernel) (Nat.le_of_ble_eq_true rfl) ?_
  show am_S _ _ _ _ _ _ _ (0, [some (.ref 9)], [], h, 0, 0) _
  refine am_steps ok_Di_writeBlock 1 (x' := (1, [some (.ref 9)], [.ref 9], h, 0, 0)) rfl (Nat.le_of_ble_eq_true rfl) (Nat.le_of_ble_eq_true rfl) ?_
  refine ar_get ok_Di_writeBlock rfl c_9 (v := .int (-1)) rfl (pc' := 4) rfl (Nat.le_of_ble_eq_true rfl) (Nat.le_of_ble_eq_true rfl) ?_
  refine am_steps ok_Di_writeBlock 2 (x' := (20, [some (.ref 9)], [.ref 9], h, 0, 0)) rfl (Nat.le_of_ble_eq_true rfl) (Nat.le_of_ble_eq_true rfl) ?_
  refine ar_get ok_Di_writeBlock rfl c_9 (v := .int (-1)) rfl (pc' := 23) rfl (Nat.le_of_ble_eq_true rfl) (Nat.le_of_ble_eq_true rfl) ?_
  refine am_steps ok_Di_writeBlock 3 (x' := (38, [some (.ref 9)], [.ref 9, .ref 9], h, 0, 0)) rfl (Nat.le_of_ble_eq_true rfl) (Nat.le_of_ble_eq_true rfl) ?_
  refine ar_get ok_Di_writeBlock rfl c_9 (v := .int w) rfl (pc' := 41) rfl (Nat.le_of_ble_eq_true rfl) (Nat.le_of_ble_eq_true rfl) ?_
  refine am_steps ok_Di_writeBlock 2 (x' := (43, [some (.ref 9)], [.int (w + 1), .ref 9], h, 0, 0)) rfl (Nat.le_of_ble_eq_true rfl) (Nat.le_of_ble_eq_true rfl) ?_
  refine ar_put ok_Di_writeBlock rfl c_9 (Nat.le_of_ble_eq_true rfl) rfl (fs' := [.int 1, .int (-1), .int (w + 1), .int j]) rfl (pc' := 46) rfl (Nat.le_of_ble_eq_true rfl) (Nat.le_of_ble_eq_true rfl) (fun h1 e2 e3 e4 => ?_)
  have fr5 : ∀ q, q ∉ ([9] : List Nat) → h1[q]? = h[q]? := fun q hq => e3 q (fun z => hq (by rw [z]; decide))
  have ln6 : h1.length = h.length := e4
  refine am_steps ok_Di_writeBlock 1 (x' := (47, [some (.ref 9)], [.int 1], h1, 0, 0)) rfl (Nat.le_of_ble_eq_true rfl) (Nat.le_of_ble_eq_true rfl) ?_
  exact am_ret ok_Di_writeBlock rfl (Nat.le_of_ble_eq_true rfl) (Nat.le_of_ble_eq_true rfl) ⟨rfl, e2, fun q hq => fr5 q (am_sub (by decide) hq), ln6⟩
set_option maxHeartbeats 4000000 in
set_option maxRecDepth 100000 in
theorem c_wrec (w : Int32) (h : am_H) (c_9 : h[9]? = some (.inr (6, [.int 1, .int (-1), .int w, .int 0])))  : am_Me am_Pr none 1 20 0 0 164 [.ref 9, .int 4] h (fun r h' => r = some (.int 1) ∧ h'[9]? = some (.inr (6, [.int 1, .int (-1), .int (w + 1), .int 8])) ∧ (∀ q, q ∉ ([9] : List Nat) → h'[q]? = h[q]?) ∧ h'.length = h.length) := by
  refine am_enter (d := hd_Di_writeRecord) rfl (by decide +kernel) (Nat.le_of_ble_eq_true rfl) ?_
  show am_S _ _ _ _ _ _ _ (0, [some (.ref 9), some (.int 4), none, none, none], [], h, 0, 0) _
  refine am_steps ok_Di_writeRecord 1 (x' := (1, [some (.ref 9), some (.int 4), none, none, none], [.ref 9], h, 0, 0)) rfl (Nat.le_of_ble_eq_true rfl) (Nat.le_of_ble_eq_true rfl) ?_
  refine ar_get ok_Di_writeRecord rfl c_9 (v := .int 0) rfl (pc' := 4) rfl (Nat.le_of_ble_eq_true rfl) (Nat.le_of_ble_eq_true rfl) ?_
  refine am_steps ok_Di_writeRecord 7 (x' := (11, [some (.ref 9), some (.int 4), some (.int 8), none, none], [.int 1, .int 8], h, 0, 0)) rfl (Nat.le_of_ble_eq_true rfl) (Nat.le_of_ble_eq_true rfl) ?_
  refine ar_isub ok_Di_writeRecord rfl (w := 7) (by decide +kernel) (pc' := 12) rfl (Nat.le_of_ble_eq_true rfl) (Nat.le_of_ble_eq_true rfl) ?_
  refine am_steps ok_Di_writeRecord 1 (x' := (15, [some (.ref 9), some (.int 4), some (.int 8), none, none], [.int 500, .int 7], h, 0, 0)) rfl (Nat.le_of_ble_eq_true rfl) (Nat.le_of_ble_eq_true rfl) ?_
  refine ar_idiv ok_Di_writeRecord rfl (by decide +kernel) (w := 0) (by decide +kernel) (pc' := 16) rfl (Nat.le_of_ble_eq_true rfl) (Nat.le_of_ble_eq_true rfl) ?_
  refine am_steps ok_Di_writeRecord 2 (x' := (18, [some (.ref 9), some (.int 4), some (.int 8), some (.int 0), none], [.ref 9], h, 0, 0)) rfl (Nat.le_of_ble_eq_true rfl) (Nat.le_of_ble_eq_true rfl) ?_
  refine ar_get ok_Di_writeRecord rfl c_9 (v := .int 0) rfl (pc' := 21) rfl (Nat.le_of_ble_eq_true rfl) (Nat.le_of_ble_eq_true rfl) ?_
  refine am_steps ok_Di_writeRecord 1 (x' := (24, [some (.ref 9), some (.int 4), some (.int 8), some (.int 0), none], [.int 500, .int 0], h, 0, 0)) rfl (Nat.le_of_ble_eq_true rfl) (Nat.le_of_ble_eq_true rfl) ?_
  refine ar_idiv ok_Di_writeRecord rfl (by decide +kernel) (w := 0) (by decide +kernel) (pc' := 25) rfl (Nat.le_of_ble_eq_true rfl) (Nat.le_of_ble_eq_true rfl) ?_
  refine am_steps ok_Di_writeRecord 5 (x' := (34, [some (.ref 9), some (.int 4), some (.int 8), some (.int 0), some (.int 0)], [.ref 9], h, 0, 0)) rfl (Nat.le_of_ble_eq_true rfl) (Nat.le_of_ble_eq_true rfl) ?_
  refine ar_cv ok_Di_writeRecord hk_Di_writeBlock rfl rfl (As := []) (ad := 9) (rest := []) rfl rfl c_9 (by decide) (c_wblock w 0 h c_9 ) (Nat.le_of_ble_eq_true rfl) (Nat.le_of_ble_eq_true rfl) (Nat.le_of_ble_eq_true rfl) (Nat.le_of_ble_eq_true rfl) (pc' := 37) rfl (fun r1 h2 q3 => ?_)
  obtain ⟨rfl, e4, f5, l6⟩ := q3
  show am_S _ _ _ _ _ _ _ (37, [some (.ref 9), some (.int 4), some (.int 8), some (.int 0), some (.int 0)], [.int 1], h2, 0, 0) _
  have fr7 : ∀ q, q ∉ ([9] : List Nat) → h2[q]? = h[q]? := fun q hq => f5 q (am_sub (by decide) hq)
  have ln8 : h2.length = h.length := l6
  refine am_steps ok_Di_writeRecord 8 (x' := (50, [some (.ref 9), some (.int 4), some (.int 8), some (.int 0), some (.int 1)], [.int 8, .ref 9], h2, 0, 0)) rfl (Nat.le_of_ble_eq_true rfl) (Nat.le_of_ble_eq_true rfl) ?_
  refine ar_put ok_Di_writeRecord rfl e4 (Nat.le_of_ble_eq_true rfl) rfl (fs' := [.int 1, .int (-1), .int (w + 1), .int 8]) rfl (pc' := 53) rfl (Nat.le_of_ble_eq_true rfl) (Nat.le_of_ble_eq_true rfl) (fun h9 e10 e11 e12 => ?_)
  have fr13 : ∀ q, q ∉ ([9] : List Nat) → h9[q]? = h[q]? := fun q hq => (e11 q (fun z => hq (by rw [z]; decide))).trans (fr7 q (am_sub (by decide) hq))
  have ln14 : h9.length = h.length := e12.trans ln8
  refine am_steps ok_Di_writeRecord 1 (x' := (54, [some (.ref 9), some (.int 4), some (.int 8), some (.int 0), some (.int 1)], [.int 1], h9, 0, 0)) rfl (Nat.le_of_ble_eq_true rfl) (Nat.le_of_ble_eq_true rfl) ?_
  exact am_ret ok_Di_writeRecord rfl (Nat.le_of_ble_eq_true rfl) (Nat.le_of_ble_eq_true rfl) ⟨rfl, e10, fun q hq => fr13 q (am_sub (by decide) hq), ln14⟩
set_option maxHeartbeats 4000000 in
set_option maxRecDepth 100000 in
theorem c_blk24  (h : am_H)   : am_Me am_Pr none 0 0 0 0 167 [.int 24] h (fun r h' => r = some (.int 1) ∧ (∀ q, q ∉ ([] : List Nat) → h'[q]? = h[q]?) ∧ h'.length = h.length) := by
  refine am_enter (d := hd_Di_blocksOf) rfl (by decide +kernel) (Nat.le_of_ble_eq_true rfl) ?_
  show am_S _ _ _ _ _ _ _ (0, [some (.int 24)], [], h, 0, 0) _
  refine am_steps ok_Di_blocksOf 4 (x' := (6, [some (.int 24)], [.int 1, .int 524], h, 0, 0)) rfl (Nat.le_of_ble_eq_true rfl) (Nat.le_of_ble_eq_true rfl) ?_
  refine ar_isub ok_Di_blocksOf rfl (w := 523) (by decide +kernel) (pc' := 7) rfl (Nat.le_of_ble_eq_true rfl) (Nat.le_of_ble_eq_true rfl) ?_
  refine am_steps ok_Di_blocksOf 1 (x' := (10, [some (.int 24)], [.int 500, .int 523], h, 0, 0)) rfl (Nat.le_of_ble_eq_true rfl) (Nat.le_of_ble_eq_true rfl) ?_
  refine ar_idiv ok_Di_blocksOf rfl (by decide +kernel) (w := 1) (by decide +kernel) (pc' := 11) rfl (Nat.le_of_ble_eq_true rfl) (Nat.le_of_ble_eq_true rfl) ?_
  exact am_ret ok_Di_blocksOf rfl (Nat.le_of_ble_eq_true rfl) (Nat.le_of_ble_eq_true rfl) ⟨rfl, fun _ _ => rfl, rfl⟩
set_option maxHeartbeats 4000000 in
set_option maxRecDepth 100000 in
theorem c_blk0  (h : am_H)   : am_Me am_Pr none 0 0 0 0 167 [.int 0] h (fun r h' => r = some (.int 0) ∧ (∀ q, q ∉ ([] : List Nat) → h'[q]? = h[q]?) ∧ h'.length = h.length) := by
  refine am_enter (d := hd_Di_blocksOf) rfl (by decide +kernel) (Nat.le_of_ble_eq_true rfl) ?_
  show am_S _ _ _ _ _ _ _ (0, [some (.int 0)], [], h, 0, 0) _
  refine am_steps ok_Di_blocksOf 4 (x' := (6, [some (.int 0)], [.int 1, .int 500], h, 0, 0)) rfl (Nat.le_of_ble_eq_true rfl) (Nat.le_of_ble_eq_true rfl) ?_
  refine ar_isub ok_Di_blocksOf rfl (w := 499) (by decide +kernel) (pc' := 7) rfl (Nat.le_of_ble_eq_true rfl) (Nat.le_of_ble_eq_true rfl) ?_
  refine am_steps ok_Di_blocksOf 1 (x' := (10, [some (.int 0)], [.int 500, .int 499], h, 0, 0)) rfl (Nat.le_of_ble_eq_true rfl) (Nat.le_of_ble_eq_true rfl) ?_
  refine ar_idiv ok_Di_blocksOf rfl (by decide +kernel) (w := 0) (by decide +kernel) (pc' := 11) rfl (Nat.le_of_ble_eq_true rfl) (Nat.le_of_ble_eq_true rfl) ?_
  exact am_ret ok_Di_blocksOf rfl (Nat.le_of_ble_eq_true rfl) (Nat.le_of_ble_eq_true rfl) ⟨rfl, fun _ _ => rfl, rfl⟩
set_option maxHeartbeats 4000000 in
set_option maxRecDepth 100000 in
theorem c_wsnap (w : Int32) (j : Int32) (h : am_H) (c_9 : h[9]? = some (.inr (6, [.int 1, .int (-1), .int w, .int j])))  : am_Me am_Pr none 1 20 0 0 165 [.ref 9, .int 24] h (fun r h' => r = some (.int 1) ∧ h'[9]? = some (.inr (6, [.int 1, .int (-1), .int ((w + 1) + 1), .int 0])) ∧ (∀ q, q ∉ ([9] : List Nat) → h'[q]? = h[q]?) ∧ h'.length = h.length) := by
  refine am_enter (d := hd_Di_writeSnapshot) rfl (by decide +kernel) (Nat.le_of_ble_eq_true rfl) ?_
  show am_S _ _ _ _ _ _ _ (0, [some (.ref 9), some (.int 24), none, none], [], h, 0, 0) _
  refine am_steps ok_Di_writeSnapshot 1 (x' := (1, [some (.ref 9), some (.int 24), none, none], [.int 24], h, 0, 0)) rfl (Nat.le_of_ble_eq_true rfl) (Nat.le_of_ble_eq_true rfl) ?_
  refine am_call ok_Di_writeSnapshot hk_Di_blocksOf rfl (args' := [.int 24]) (rest := []) rfl (c_blk24  h  ) (Nat.le_of_ble_eq_true rfl) (Nat.le_of_ble_eq_true rfl) (Nat.le_of_ble_eq_true rfl) (Nat.le_of_ble_eq_true rfl) (fun r1 h2 q3 => ?_)
  obtain ⟨rfl, f4, l5⟩ := q3
  show am_S _ _ _ _ _ _ _ (4, [some (.ref 9), some (.int 24), none, none], [.int 1], h2, 0, 0) _
  have c6 := (f4 9 (by decide)).trans c_9
  have fr7 : ∀ q, q ∉ ([] : List Nat) → h2[q]? = h[q]? := fun q hq => f4 q (am_sub (by decide) hq)
  have ln8 : h2.length = h.length := l5
  refine am_steps ok_Di_writeSnapshot 9 (x' := (15, [some (.ref 9), some (.int 24), some (.int 2), some (.int 0)], [.ref 9], h2, 0, 0)) rfl (Nat.le_of_ble_eq_true rfl) (Nat.le_of_ble_eq_true rfl) ?_
  refine ar_cv ok_Di_writeSnapshot hk_Di_writeBlock rfl rfl (As := []) (ad := 9) (rest := []) rfl rfl c6 (by decide) (c_wblock w j h2 c6 ) (Nat.le_of_ble_eq_true rfl) (Nat.le_of_ble_eq_true rfl) (Nat.le_of_ble_eq_true rfl) (Nat.le_of_ble_eq_true rfl) (pc' := 18) rfl (fun r9 h10 q11 => ?_)
  obtain ⟨rfl, e12, f13, l14⟩ := q11
  show am_S _ _ _ _ _ _ _ (18, [some (.ref 9), some (.int 24), some (.int 2), some (.int 0)], [.int 1], h10, 0, 0) _
  have fr15 : ∀ q, q ∉ ([9] : List Nat) → h10[q]? = h[q]? := fun q hq => (f13 q (am_sub (by decide) hq)).trans (fr7 q (am_sub (by decide) hq))
  have ln16 : h10.length = h.length := l14.trans ln8
  refine am_steps ok_Di_writeSnapshot 7 (x' := (15, [some (.ref 9), some (.int 24), some (.int 2), some (.int 1)], [.ref 9], h10, 0, 0)) rfl (Nat.le_of_ble_eq_true rfl) (Nat.le_of_ble_eq_true rfl) ?_
  refine ar_cv ok_Di_writeSnapshot hk_Di_writeBlock rfl rfl (As := []) (ad := 9) (rest := []) rfl rfl e12 (by decide) (c_wblock ((w + 1)) j h10 e12 ) (Nat.le_of_ble_eq_true rfl) (Nat.le_of_ble_eq_true rfl) (Nat.le_of_ble_eq_true rfl) (Nat.le_of_ble_eq_true rfl) (pc' := 18) rfl (fun r17 h18 q19 => ?_)
  obtain ⟨rfl, e20, f21, l22⟩ := q19
  show am_S _ _ _ _ _ _ _ (18, [some (.ref 9), some (.int 24), some (.int 2), some (.int 1)], [.int 1], h18, 0, 0) _
  have fr23 : ∀ q, q ∉ ([9] : List Nat) → h18[q]? = h[q]? := fun q hq => (f21 q (am_sub (by decide) hq)).trans (fr15 q (am_sub (by decide) hq))
  have ln24 : h18.length = h.length := l22.trans ln16
  refine am_steps ok_Di_writeSnapshot 8 (x' := (31, [some (.ref 9), some (.int 24), some (.int 2), some (.int 2)], [.int 0, .ref 9], h18, 0, 0)) rfl (Nat.le_of_ble_eq_true rfl) (Nat.le_of_ble_eq_true rfl) ?_
  refine ar_put ok_Di_writeSnapshot rfl e20 (Nat.le_of_ble_eq_true rfl) rfl (fs' := [.int 1, .int (-1), .int ((w + 1) + 1), .int 0]) rfl (pc' := 34) rfl (Nat.le_of_ble_eq_true rfl) (Nat.le_of_ble_eq_true rfl) (fun h25 e26 e27 e28 => ?_)
  have fr29 : ∀ q, q ∉ ([9] : List Nat) → h25[q]? = h[q]? := fun q hq => (e27 q (fun z => hq (by rw [z]; decide))).trans (fr23 q (am_sub (by decide) hq))
  have ln30 : h25.length = h.length := e28.trans ln24
  refine am_steps ok_Di_writeSnapshot 1 (x' := (35, [some (.ref 9), some (.int 24), some (.int 2), some (.int 2)], [.int 1], h25, 0, 0)) rfl (Nat.le_of_ble_eq_true rfl) (Nat.le_of_ble_eq_true rfl) ?_
  exact am_ret ok_Di_writeSnapshot rfl (Nat.le_of_ble_eq_true rfl) (Nat.le_of_ble_eq_true rfl) ⟨rfl, e26, fun q hq => fr29 q (am_sub (by decide) hq), ln30⟩
set_option maxHeartbeats 4000000 in
set_option maxRecDepth 100000 in
theorem c_jblk  (h : am_H) (c_9 : h[9]? = some (.inr (6, [.int 1, .int (-1), .int 0, .int 0])))  : am_Me am_Pr none 1 20 0 0 166 [.ref 9] h (fun r h' => r = some (.int 0) ∧ (∀ q, q ∉ ([] : List Nat) → h'[q]? = h[q]?) ∧ h'.length = h.length) := by
  refine am_enter (d := hd_Di_journalBlocks) rfl (by decide +kernel) (Nat.le_of_ble_eq_true rfl) ?_
  show am_S _ _ _ _ _ _ _ (0, [some (.ref 9)], [], h, 0, 0) _
  refine am_steps ok_Di_journalBlocks 1 (x' := (1, [some (.ref 9)], [.ref 9], h, 0, 0)) rfl (Nat.le_of_ble_eq_true rfl) (Nat.le_of_ble_eq_true rfl) ?_
  refine ar_get ok_Di_journalBlocks rfl c_9 (v := .int 0) rfl (pc' := 4) rfl (Nat.le_of_ble_eq_true rfl) (Nat.le_of_ble_eq_true rfl) ?_
  refine am_call ok_Di_journalBlocks hk_Di_blocksOf rfl (args' := [.int 0]) (rest := []) rfl (c_blk0  h  ) (Nat.le_of_ble_eq_true rfl) (Nat.le_of_ble_eq_true rfl) (Nat.le_of_ble_eq_true rfl) (Nat.le_of_ble_eq_true rfl) (fun r1 h2 q3 => ?_)
  obtain ⟨rfl, f4, l5⟩ := q3
  show am_S _ _ _ _ _ _ _ (7, [some (.ref 9)], [.int 0], h2, 0, 0) _
  have c6 := (f4 9 (by decide)).trans c_9
  have fr7 : ∀ q, q ∉ ([] : List Nat) → h2[q]? = h[q]? := fun q hq => f4 q (am_sub (by decide) hq)
  have ln8 : h2.length = h.length := l5
  exact am_ret ok_Di_journalBlocks rfl (Nat.le_of_ble_eq_true rfl) (Nat.le_of_ble_eq_true rfl) ⟨rfl, fun q hq => fr7 q (am_sub (by decide) hq), ln8⟩
set_option maxHeartbeats 4000000 in
set_option maxRecDepth 100000 in
theorem c_dtm (lk : Int32) (h : am_H) (c_16 : h[16]? = some (.inr (11, [.ref 17, .int 0, .ref 18, .int 0, .ref 19, .int 0, .int lk])))  : am_Me am_Pr none 2 44 0 0 220 [.ref 16] h (fun r h' => r = some (.int 0) ∧ h'[16]? = some (.inr (11, [.ref 17, .int 0, .ref 18, .int 0, .ref 19, .int 0, .int (lk + 1)])) ∧ (∀ q, q ∉ ([16] : List Nat) → h'[q]? = h[q]?) ∧ h'.length = h.length) := by
  refine am_enter (d := hd_Qu_dropTooMany) rfl (by decide +kernel) (Nat.le_of_ble_eq_true rfl) ?_
  show am_S _ _ _ _ _ _ _ (0, [some (.ref 16), none, none, none], [], h, 0, 0) _
  refine am_steps ok_Qu_dropTooMany 2 (x' := (2, [some (.ref 16), none, none, none], [.ref 16, .ref 16], h, 0, 0)) rfl (Nat.le_of_ble_eq_true rfl) (Nat.le_of_ble_eq_true rfl) ?_
  refine ar_get ok_Qu_dropTooMany rfl c_16 (v := .int lk) rfl (pc' := 5) rfl (Nat.le_of_ble_eq_true rfl) (Nat.le_of_ble_eq_true rfl) ?_
  refine am_steps ok_Qu_dropTooMany 2 (x' := (7, [some (.ref 16), none, none, none], [.int (lk + 1), .ref 16], h, 0, 0)) rfl (Nat.le_of_ble_eq_true rfl) (Nat.le_of_ble_eq_true rfl) ?_
  refine ar_put ok_Qu_dropTooMany rfl c_16 (Nat.le_of_ble_eq_true rfl) rfl (fs' := [.ref 17, .int 0, .ref 18, .int 0, .ref 19, .int 0, .int (lk + 1)]) rfl (pc' := 10) rfl (Nat.le_of_ble_eq_true rfl) (Nat.le_of_ble_eq_true rfl) (fun h1 e2 e3 e4 => ?_)
  have fr5 : ∀ q, q ∉ ([16] : List Nat) → h1[q]? = h[q]? := fun q hq => e3 q (fun z => hq (by rw [z]; decide))
  have ln6 : h1.length = h.length := e4
  refine am_steps ok_Qu_dropTooMany 3 (x' := (13, [some (.ref 16), some (.int 0), none, none], [.ref 16], h1, 0, 0)) rfl (Nat.le_of_ble_eq_true rfl) (Nat.le_of_ble_eq_true rfl) ?_
  refine ar_get ok_Qu_dropTooMany rfl e2 (v := .int 0) rfl (pc' := 16) rfl (Nat.le_of_ble_eq_true rfl) (Nat.le_of_ble_eq_true rfl) ?_
  refine am_steps ok_Qu_dropTooMany 1 (x' := (17, [some (.ref 16), some (.int 0), none, none], [.int 1, .int 0], h1, 0, 0)) rfl (Nat.le_of_ble_eq_true rfl) (Nat.le_of_ble_eq_true rfl) ?_
  refine ar_isub ok_Qu_dropTooMany rfl (w := (-1)) (by decide +kernel) (pc' := 18) rfl (Nat.le_of_ble_eq_true rfl) (Nat.le_of_ble_eq_true rfl) ?_
  refine am_steps ok_Qu_dropTooMany 4 (x' := (79, [some (.ref 16), some (.int 0), some (.int (-1)), none], [.int 0], h1, 0, 0)) rfl (Nat.le_of_ble_eq_true rfl) (Nat.le_of_ble_eq_true rfl) ?_
  exact am_ret ok_Qu_dropTooMany rfl (Nat.le_of_ble_eq_true rfl) (Nat.le_of_ble_eq_true rfl) ⟨rfl, e2, fun q hq => fr5 q (am_sub (by decide) hq), ln6⟩
set_option maxHeartbeats 4000000 in
set_option maxRecDepth 100000 in
theorem c_df (lk : Int32) (h : am_H) (c_16 : h[16]? = some (.inr (11, [.ref 17, .int 0, .ref 18, .int 0, .ref 19, .int 0, .int lk])))  : am_Me am_Pr none 2 43 0 0 221 [.ref 16] h (fun r h' => r = none ∧ h'[16]? = some (.inr (11, [.ref 17, .int 0, .ref 18, .int 0, .ref 19, .int 0, .int (lk + 1)])) ∧ (∀ q, q ∉ ([16] : List Nat) → h'[q]? = h[q]?) ∧ h'.length = h.length) := by
  refine am_enter (d := hd_Qu_dropFollowers) rfl (by decide +kernel) (Nat.le_of_ble_eq_true rfl) ?_
  show am_S _ _ _ _ _ _ _ (0, [some (.ref 16), none, none], [], h, 0, 0) _
  refine am_steps ok_Qu_dropFollowers 2 (x' := (2, [some (.ref 16), none, none], [.ref 16, .ref 16], h, 0, 0)) rfl (Nat.le_of_ble_eq_true rfl) (Nat.le_of_ble_eq_true rfl) ?_
  refine ar_get ok_Qu_dropFollowers rfl c_16 (v := .int lk) rfl (pc' := 5) rfl (Nat.le_of_ble_eq_true rfl) (Nat.le_of_ble_eq_true rfl) ?_
  refine am_steps ok_Qu_dropFollowers 2 (x' := (7, [some (.ref 16), none, none], [.int (lk + 1), .ref 16], h, 0, 0)) rfl (Nat.le_of_ble_eq_true rfl) (Nat.le_of_ble_eq_true rfl) ?_
  refine ar_put ok_Qu_dropFollowers rfl c_16 (Nat.le_of_ble_eq_true rfl) rfl (fs' := [.ref 17, .int 0, .ref 18, .int 0, .ref 19, .int 0, .int (lk + 1)]) rfl (pc' := 10) rfl (Nat.le_of_ble_eq_true rfl) (Nat.le_of_ble_eq_true rfl) (fun h1 e2 e3 e4 => ?_)
  have fr5 : ∀ q, q ∉ ([16] : List Nat) → h1[q]? = h[q]? := fun q hq => e3 q (fun z => hq (by rw [z]; decide))
  have ln6 : h1.length = h.length := e4
  refine am_steps ok_Qu_dropFollowers 4 (x' := (14, [some (.ref 16), some (.int 0), none], [.ref 16, .int 0], h1, 0, 0)) rfl (Nat.le_of_ble_eq_true rfl) (Nat.le_of_ble_eq_true rfl) ?_
  refine ar_get ok_Qu_dropFollowers rfl e2 (v := .int 0) rfl (pc' := 17) rfl (Nat.le_of_ble_eq_true rfl) (Nat.le_of_ble_eq_true rfl) ?_
  refine am_steps ok_Qu_dropFollowers 1 (x' := (70, [some (.ref 16), some (.int 0), none], [], h1, 0, 0)) rfl (Nat.le_of_ble_eq_true rfl) (Nat.le_of_ble_eq_true rfl) ?_
  exact am_ret ok_Qu_dropFollowers rfl (Nat.le_of_ble_eq_true rfl) (Nat.le_of_ble_eq_true rfl) ⟨rfl, e2, fun q hq => fr5 q (am_sub (by decide) hq), ln6⟩
set_option maxHeartbeats 4000000 in
set_option maxRecDepth 100000 in
theorem c_sch (lk : Int32) (h : am_H) (c_16 : h[16]? = some (.inr (11, [.ref 17, .int 0, .ref 18, .int 0, .ref 19, .int 0, .int lk])))  : am_Me am_Pr none 3 66 0 0 222 [.ref 16] h (fun r h' => r = none ∧ (∀ q, q ∉ ([] : List Nat) → h'[q]? = h[q]?) ∧ h'.length = h.length) := by
  refine am_enter (d := hd_Qu_settleChosen) rfl (by decide +kernel) (Nat.le_of_ble_eq_true rfl) ?_
  show am_S _ _ _ _ _ _ _ (0, [some (.ref 16), none, none], [], h, 0, 0) _
  refine am_steps ok_Qu_settleChosen 3 (x' := (3, [some (.ref 16), some (.int 0), none], [.ref 16], h, 0, 0)) rfl (Nat.le_of_ble_eq_true rfl) (Nat.le_of_ble_eq_true rfl) ?_
  refine ar_get ok_Qu_settleChosen rfl c_16 (v := .int 0) rfl (pc' := 6) rfl (Nat.le_of_ble_eq_true rfl) (Nat.le_of_ble_eq_true rfl) ?_
  refine am_steps ok_Qu_settleChosen 3 (x' := (45, [some (.ref 16), some (.int 0), some (.int 0)], [], h, 0, 0)) rfl (Nat.le_of_ble_eq_true rfl) (Nat.le_of_ble_eq_true rfl) ?_
  exact am_ret ok_Qu_settleChosen rfl (Nat.le_of_ble_eq_true rfl) (Nat.le_of_ble_eq_true rfl) ⟨rfl, fun _ _ => rfl, rfl⟩
set_option maxHeartbeats 4000000 in
set_option maxRecDepth 100000 in
theorem c_resolve (lk : Int32) (h : am_H) (c_16 : h[16]? = some (.inr (11, [.ref 17, .int 0, .ref 18, .int 0, .ref 19, .int 0, .int lk])))  : am_Me am_Pr none 4 88 0 0 219 [.ref 16] h (fun r h' => r = none ∧ h'[16]? = some (.inr (11, [.ref 17, .int 0, .ref 18, .int 0, .ref 19, .int 0, .int ((lk + 1) + 1)])) ∧ (∀ q, q ∉ ([16] : List Nat) → h'[q]? = h[q]?) ∧ h'.length = h.length) := by
  refine am_enter (d := hd_Qu_resolve) rfl (by decide +kernel) (Nat.le_of_ble_eq_true rfl) ?_
  show am_S _ _ _ _ _ _ _ (0, [some (.ref 16), none, none], [], h, 0, 0) _
  refine am_steps ok_Qu_resolve 4 (x' := (4, [some (.ref 16), some (.int 0), none], [.ref 16, .int 0], h, 0, 0)) rfl (Nat.le_of_ble_eq_true rfl) (Nat.le_of_ble_eq_true rfl) ?_
  refine ar_get ok_Qu_resolve rfl c_16 (v := .int 0) rfl (pc' := 7) rfl (Nat.le_of_ble_eq_true rfl) (Nat.le_of_ble_eq_true rfl) ?_
  refine am_steps ok_Qu_resolve 5 (x' := (29, [some (.ref 16), some (.int 0), none], [.ref 16, .int 0], h, 0, 0)) rfl (Nat.le_of_ble_eq_true rfl) (Nat.le_of_ble_eq_true rfl) ?_
  refine ar_get ok_Qu_resolve rfl c_16 (v := .int 0) rfl (pc' := 32) rfl (Nat.le_of_ble_eq_true rfl) (Nat.le_of_ble_eq_true rfl) ?_
  refine am_steps ok_Qu_resolve 11 (x' := (66, [some (.ref 16), some (.int 1), some (.int 0)], [.ref 16], h, 0, 0)) rfl (Nat.le_of_ble_eq_true rfl) (Nat.le_of_ble_eq_true rfl) ?_
  refine ar_cv ok_Qu_resolve hk_Qu_dropTooMany rfl rfl (As := []) (ad := 16) (rest := []) rfl rfl c_16 (by decide) (c_dtm lk h c_16 ) (Nat.le_of_ble_eq_true rfl) (Nat.le_of_ble_eq_true rfl) (Nat.le_of_ble_eq_true rfl) (Nat.le_of_ble_eq_true rfl) (pc' := 69) rfl (fun r1 h2 q3 => ?_)
  obtain ⟨rfl, e4, f5, l6⟩ := q3
  show am_S _ _ _ _ _ _ _ (69, [some (.ref 16), some (.int 1), some (.int 0)], [.int 0], h2, 0, 0) _
  have fr7 : ∀ q, q ∉ ([16] : List Nat) → h2[q]? = h[q]? := fun q hq => f5 q (am_sub (by decide) hq)
  have ln8 : h2.length = h.length := l6
  refine am_steps ok_Qu_resolve 2 (x' := (71, [some (.ref 16), some (.int 0), some (.int 0)], [.ref 16], h2, 0, 0)) rfl (Nat.le_of_ble_eq_true rfl) (Nat.le_of_ble_eq_true rfl) ?_
  refine ar_cv ok_Qu_resolve hk_Qu_dropFollowers rfl rfl (As := []) (ad := 16) (rest := []) rfl rfl e4 (by decide) (c_df ((lk + 1)) h2 e4 ) (Nat.le_of_ble_eq_true rfl) (Nat.le_of_ble_eq_true rfl) (Nat.le_of_ble_eq_true rfl) (Nat.le_of_ble_eq_true rfl) (pc' := 74) rfl (fun r9 h10 q11 => ?_)
  obtain ⟨rfl, e12, f13, l14⟩ := q11
  show am_S _ _ _ _ _ _ _ (74, [some (.ref 16), some (.int 0), some (.int 0)], [], h10, 0, 0) _
  have fr15 : ∀ q, q ∉ ([16] : List Nat) → h10[q]? = h[q]? := fun q hq => (f13 q (am_sub (by decide) hq)).trans (fr7 q (am_sub (by decide) hq))
  have ln16 : h10.length = h.length := l14.trans ln8
  refine am_steps ok_Qu_resolve 8 (x' := (81, [some (.ref 16), some (.int 0), some (.int 1)], [.ref 16], h10, 0, 0)) rfl (Nat.le_of_ble_eq_true rfl) (Nat.le_of_ble_eq_true rfl) ?_
  refine ar_cv ok_Qu_resolve hk_Qu_settleChosen rfl rfl (As := []) (ad := 16) (rest := []) rfl rfl e12 (by decide) (c_sch (((lk + 1) + 1)) h10 e12 ) (Nat.le_of_ble_eq_true rfl) (Nat.le_of_ble_eq_true rfl) (Nat.le_of_ble_eq_true rfl) (Nat.le_of_ble_eq_true rfl) (pc' := 84) rfl (fun r17 h18 q19 => ?_)
  obtain ⟨rfl, f20, l21⟩ := q19
  show am_S _ _ _ _ _ _ _ (84, [some (.ref 16), some (.int 0), some (.int 1)], [], h18, 0, 0) _
  have c22 := (f20 16 (by decide)).trans e12
  have fr23 : ∀ q, q ∉ ([16] : List Nat) → h18[q]? = h[q]? := fun q hq => (f20 q (am_sub (by decide) hq)).trans (fr15 q (am_sub (by decide) hq))
  have ln24 : h18.length = h.length := l21.trans ln16
  exact am_ret ok_Qu_resolve rfl (Nat.le_of_ble_eq_true rfl) (Nat.le_of_ble_eq_true rfl) ⟨rfl, c22, fun q hq => fr23 q (am_sub (by decide) hq), ln24⟩
set_option maxHeartbeats 4000000 in
set_option maxRecDepth 100000 in
theorem c_first (lk : Int32) (h : am_H) (c_16 : h[16]? = some (.inr (11, [.ref 17, .int 0, .ref 18, .int 0, .ref 19, .int 0, .int lk])))  : am_Me am_Pr none 2 44 0 0 216 [.ref 16] h (fun r h' => r = some (.null) ∧ h'[16]? = some (.inr (11, [.ref 17, .int 0, .ref 18, .int 0, .ref 19, .int 0, .int (lk + 1)])) ∧ (∀ q, q ∉ ([16] : List Nat) → h'[q]? = h[q]?) ∧ h'.length = h.length) := by
  refine am_enter (d := hd_Qu_firstThatCanSettle) rfl (by decide +kernel) (Nat.le_of_ble_eq_true rfl) ?_
  show am_S _ _ _ _ _ _ _ (0, [some (.ref 16), none], [], h, 0, 0) _
  refine am_steps ok_Qu_firstThatCanSettle 2 (x' := (2, [some (.ref 16), none], [.ref 16, .ref 16], h, 0, 0)) rfl (Nat.le_of_ble_eq_true rfl) (Nat.le_of_ble_eq_true rfl) ?_
  refine ar_get ok_Qu_firstThatCanSettle rfl c_16 (v := .int lk) rfl (pc' := 5) rfl (Nat.le_of_ble_eq_true rfl) (Nat.le_of_ble_eq_true rfl) ?_
  refine am_steps ok_Qu_firstThatCanSettle 2 (x' := (7, [some (.ref 16), none], [.int (lk + 1), .ref 16], h, 0, 0)) rfl (Nat.le_of_ble_eq_true rfl) (Nat.le_of_ble_eq_true rfl) ?_
  refine ar_put ok_Qu_firstThatCanSettle rfl c_16 (Nat.le_of_ble_eq_true rfl) rfl (fs' := [.ref 17, .int 0, .ref 18, .int 0, .ref 19, .int 0, .int (lk + 1)]) rfl (pc' := 10) rfl (Nat.le_of_ble_eq_true rfl) (Nat.le_of_ble_eq_true rfl) (fun h1 e2 e3 e4 => ?_)
  have fr5 : ∀ q, q ∉ ([16] : List Nat) → h1[q]? = h[q]? := fun q hq => e3 q (fun z => hq (by rw [z]; decide))
  have ln6 : h1.length = h.length := e4
  refine am_steps ok_Qu_firstThatCanSettle 4 (x' := (14, [some (.ref 16), some (.int 0)], [.ref 16, .int 0], h1, 0, 0)) rfl (Nat.le_of_ble_eq_true rfl) (Nat.le_of_ble_eq_true rfl) ?_
  refine ar_get ok_Qu_firstThatCanSettle rfl e2 (v := .int 0) rfl (pc' := 17) rfl (Nat.le_of_ble_eq_true rfl) (Nat.le_of_ble_eq_true rfl) ?_
  refine am_steps ok_Qu_firstThatCanSettle 2 (x' := (63, [some (.ref 16), some (.int 0)], [.null], h1, 0, 0)) rfl (Nat.le_of_ble_eq_true rfl) (Nat.le_of_ble_eq_true rfl) ?_
  exact am_ret ok_Qu_firstThatCanSettle rfl (Nat.le_of_ble_eq_true rfl) (Nat.le_of_ble_eq_true rfl) ⟨rfl, e2, fun q hq => fr5 q (am_sub (by decide) hq), ln6⟩
set_option maxHeartbeats 4000000 in
set_option maxRecDepth 100000 in
theorem c_sall (lk : Int32) (h : am_H) (c_16 : h[16]? = some (.inr (11, [.ref 17, .int 0, .ref 18, .int 0, .ref 19, .int 0, .int lk])))  : am_Me am_Pr none 3 66 0 0 215 [.ref 16] h (fun r h' => r = none ∧ h'[16]? = some (.inr (11, [.ref 17, .int 0, .ref 18, .int 0, .ref 19, .int 0, .int (lk + 1)])) ∧ (∀ q, q ∉ ([16] : List Nat) → h'[q]? = h[q]?) ∧ h'.length = h.length) := by
  refine am_enter (d := hd_Qu_settleAllThatCan) rfl (by decide +kernel) (Nat.le_of_ble_eq_true rfl) ?_
  show am_S _ _ _ _ _ _ _ (0, [some (.ref 16), none, none], [], h, 0, 0) _
  refine am_steps ok_Qu_settleAllThatCan 6 (x' := (10, [some (.ref 16), some (.int 0), none], [.ref 16], h, 0, 0)) rfl (Nat.le_of_ble_eq_true rfl) (Nat.le_of_ble_eq_true rfl) ?_
  refine ar_cv ok_Qu_settleAllThatCan hk_Qu_firstThatCanSettle rfl rfl (As := []) (ad := 16) (rest := []) rfl rfl c_16 (by decide) (c_first lk h c_16 ) (Nat.le_of_ble_eq_true rfl) (Nat.le_of_ble_eq_true rfl) (Nat.le_of_ble_eq_true rfl) (Nat.le_of_ble_eq_true rfl) (pc' := 13) rfl (fun r1 h2 q3 => ?_)
  obtain ⟨rfl, e4, f5, l6⟩ := q3
  show am_S _ _ _ _ _ _ _ (13, [some (.ref 16), some (.int 0), none], [.null], h2, 0, 0) _
  have fr7 : ∀ q, q ∉ ([16] : List Nat) → h2[q]? = h[q]? := fun q hq => f5 q (am_sub (by decide) hq)
  have ln8 : h2.length = h.length := l6
  refine am_steps ok_Qu_settleAllThatCan 3 (x' := (18, [some (.ref 16), some (.int 0), some (.null)], [], h2, 0, 0)) rfl (Nat.le_of_ble_eq_true rfl) (Nat.le_of_ble_eq_true rfl) ?_
  exact am_ret ok_Qu_settleAllThatCan rfl (Nat.le_of_ble_eq_true rfl) (Nat.le_of_ble_eq_true rfl) ⟨rfl, e4, fun q hq => fr7 q (am_sub (by decide) hq), ln8⟩
set_option maxHeartbeats 4000000 in
set_option maxRecDepth 100000 in
theorem c_sback (lk : Int32) (h : am_H) (c_16 : h[16]? = some (.inr (11, [.ref 17, .int 0, .ref 18, .int 0, .ref 19, .int 0, .int lk])))  : am_Me am_Pr none 1 22 0 0 223 [.ref 16] h (fun r h' => r = none ∧ h'[16]? = some (.inr (11, [.ref 17, .int 0, .ref 18, .int 0, .ref 19, .int 0, .int lk])) ∧ (∀ q, q ∉ ([16] : List Nat) → h'[q]? = h[q]?) ∧ h'.length = h.length) := by
  refine am_enter (d := hd_Qu_sendAllBack) rfl (by decide +kernel) (Nat.le_of_ble_eq_true rfl) ?_
  show am_S _ _ _ _ _ _ _ (0, [some (.ref 16), none], [], h, 0, 0) _
  refine am_steps ok_Qu_sendAllBack 4 (x' := (4, [some (.ref 16), some (.int 0)], [.ref 16, .int 0], h, 0, 0)) rfl (Nat.le_of_ble_eq_true rfl) (Nat.le_of_ble_eq_true rfl) ?_
  refine ar_get ok_Qu_sendAllBack rfl c_16 (v := .int 0) rfl (pc' := 7) rfl (Nat.le_of_ble_eq_true rfl) (Nat.le_of_ble_eq_true rfl) ?_
  refine am_steps ok_Qu_sendAllBack 5 (x' := (31, [some (.ref 16), some (.int 0)], [.ref 16, .int 0], h, 0, 0)) rfl (Nat.le_of_ble_eq_true rfl) (Nat.le_of_ble_eq_true rfl) ?_
  refine ar_get ok_Qu_sendAllBack rfl c_16 (v := .int 0) rfl (pc' := 34) rfl (Nat.le_of_ble_eq_true rfl) (Nat.le_of_ble_eq_true rfl) ?_
  refine am_steps ok_Qu_sendAllBack 3 (x' := (56, [some (.ref 16), some (.int 0)], [.int 0, .ref 16], h, 0, 0)) rfl (Nat.le_of_ble_eq_true rfl) (Nat.le_of_ble_eq_true rfl) ?_
  refine ar_put ok_Qu_sendAllBack rfl c_16 (Nat.le_of_ble_eq_true rfl) rfl (fs' := [.ref 17, .int 0, .ref 18, .int 0, .ref 19, .int 0, .int lk]) rfl (pc' := 59) rfl (Nat.le_of_ble_eq_true rfl) (Nat.le_of_ble_eq_true rfl) (fun h1 e2 e3 e4 => ?_)
  have fr5 : ∀ q, q ∉ ([16] : List Nat) → h1[q]? = h[q]? := fun q hq => e3 q (fun z => hq (by rw [z]; decide))
  have ln6 : h1.length = h.length := e4
  refine am_steps ok_Qu_sendAllBack 2 (x' := (61, [some (.ref 16), some (.int 0)], [.int 0, .ref 16], h1, 0, 0)) rfl (Nat.le_of_ble_eq_true rfl) (Nat.le_of_ble_eq_true rfl) ?_
  refine ar_put ok_Qu_sendAllBack rfl e2 (Nat.le_of_ble_eq_true rfl) rfl (fs' := [.ref 17, .int 0, .ref 18, .int 0, .ref 19, .int 0, .int lk]) rfl (pc' := 64) rfl (Nat.le_of_ble_eq_true rfl) (Nat.le_of_ble_eq_true rfl) (fun h7 e8 e9 e10 => ?_)
  have fr11 : ∀ q, q ∉ ([16] : List Nat) → h7[q]? = h[q]? := fun q hq => (e9 q (fun z => hq (by rw [z]; decide))).trans (fr5 q (am_sub (by decide) hq))
  have ln12 : h7.length = h.length := e10.trans ln6
  exact am_ret ok_Qu_sendAllBack rfl (Nat.le_of_ble_eq_true rfl) (Nat.le_of_ble_eq_true rfl) ⟨rfl, e8, fun q hq => fr11 q (am_sub (by decide) hq), ln12⟩
set_option maxHeartbeats 4000000 in
set_option maxRecDepth 100000 in
theorem c_tell (lk : Int32) (h : am_H) (c_16 : h[16]? = some (.inr (11, [.ref 17, .int 0, .ref 18, .int 0, .ref 19, .int 0, .int lk])))  : am_Me am_Pr none 2 48 0 0 224 [.ref 16, .ref 7] h (fun r h' => r = none ∧ h'[16]? = some (.inr (11, [.ref 17, .int 0, .ref 18, .int 0, .ref 19, .int 0, .int lk])) ∧ (∀ q, q ∉ ([16] : List Nat) → h'[q]? = h[q]?) ∧ h'.length = h.length) := by
  refine am_enter (d := hd_Qu_tell) rfl (by decide +kernel) (Nat.le_of_ble_eq_true rfl) ?_
  show am_S _ _ _ _ _ _ _ (0, [some (.ref 16), some (.ref 7), none], [], h, 0, 0) _
  refine am_steps ok_Qu_tell 4 (x' := (4, [some (.ref 16), some (.ref 7), some (.int 0)], [.ref 16, .int 0], h, 0, 0)) rfl (Nat.le_of_ble_eq_true rfl) (Nat.le_of_ble_eq_true rfl) ?_
  refine ar_get ok_Qu_tell rfl c_16 (v := .int 0) rfl (pc' := 7) rfl (Nat.le_of_ble_eq_true rfl) (Nat.le_of_ble_eq_true rfl) ?_
  refine am_steps ok_Qu_tell 3 (x' := (78, [some (.ref 16), some (.ref 7), some (.int 0)], [.int 0, .ref 16], h, 0, 0)) rfl (Nat.le_of_ble_eq_true rfl) (Nat.le_of_ble_eq_true rfl) ?_
  refine ar_put ok_Qu_tell rfl c_16 (Nat.le_of_ble_eq_true rfl) rfl (fs' := [.ref 17, .int 0, .ref 18, .int 0, .ref 19, .int 0, .int lk]) rfl (pc' := 81) rfl (Nat.le_of_ble_eq_true rfl) (Nat.le_of_ble_eq_true rfl) (fun h1 e2 e3 e4 => ?_)
  have fr5 : ∀ q, q ∉ ([16] : List Nat) → h1[q]? = h[q]? := fun q hq => e3 q (fun z => hq (by rw [z]; decide))
  have ln6 : h1.length = h.length := e4
  exact am_ret ok_Qu_tell rfl (Nat.le_of_ble_eq_true rfl) (Nat.le_of_ble_eq_true rfl) ⟨rfl, e2, fun q hq => fr5 q (am_sub (by decide) hq), ln6⟩
set_option maxHeartbeats 4000000 in
set_option maxRecDepth 100000 in
theorem c_alclear (md : Int32) (h : am_H) (c_21 : h[21]? = some (.inr (13, [.ref 16777217, .int 0, .int md])))  : am_Me am_Pr none 0 0 0 0 232 [.ref 21] h (fun r h' => r = none ∧ h'[21]? = some (.inr (13, [.ref 16777217, .int 0, .int (md + 1)])) ∧ (∀ q, q ∉ ([21] : List Nat) → h'[q]? = h[q]?) ∧ h'.length = h.length) := by
  refine am_enter (d := hd_AL_clear) rfl (by decide +kernel) (Nat.le_of_ble_eq_true rfl) ?_
  show am_S _ _ _ _ _ _ _ (0, [some (.ref 21), none, none, none], [], h, 0, 0) _
  refine am_steps ok_AL_clear 2 (x' := (2, [some (.ref 21), none, none, none], [.ref 21, .ref 21], h, 0, 0)) rfl (Nat.le_of_ble_eq_true rfl) (Nat.le_of_ble_eq_true rfl) ?_
  refine ar_get ok_AL_clear rfl c_21 (v := .int md) rfl (pc' := 5) rfl (Nat.le_of_ble_eq_true rfl) (Nat.le_of_ble_eq_true rfl) ?_
  refine am_steps ok_AL_clear 2 (x' := (7, [some (.ref 21), none, none, none], [.int (md + 1), .ref 21], h, 0, 0)) rfl (Nat.le_of_ble_eq_true rfl) (Nat.le_of_ble_eq_true rfl) ?_
  refine ar_put ok_AL_clear rfl c_21 (Nat.le_of_ble_eq_true rfl) rfl (fs' := [.ref 16777217, .int 0, .int (md + 1)]) rfl (pc' := 10) rfl (Nat.le_of_ble_eq_true rfl) (Nat.le_of_ble_eq_true rfl) (fun h1 e2 e3 e4 => ?_)
  have fr5 : ∀ q, q ∉ ([21] : List Nat) → h1[q]? = h[q]? := fun q hq => e3 q (fun z => hq (by rw [z]; decide))
  have ln6 : h1.length = h.length := e4
  refine am_steps ok_AL_clear 1 (x' := (11, [some (.ref 21), none, none, none], [.ref 21], h1, 0, 0)) rfl (Nat.le_of_ble_eq_true rfl) (Nat.le_of_ble_eq_true rfl) ?_
  refine ar_get ok_AL_clear rfl e2 (v := .ref 16777217) rfl (pc' := 14) rfl (Nat.le_of_ble_eq_true rfl) (Nat.le_of_ble_eq_true rfl) ?_
  refine am_steps ok_AL_clear 2 (x' := (16, [some (.ref 21), some (.ref 16777217), none, none], [.ref 21], h1, 0, 0)) rfl (Nat.le_of_ble_eq_true rfl) (Nat.le_of_ble_eq_true rfl) ?_
  refine ar_get ok_AL_clear rfl e2 (v := .int 0) rfl (pc' := 19) rfl (Nat.le_of_ble_eq_true rfl) (Nat.le_of_ble_eq_true rfl) ?_
  refine am_steps ok_AL_clear 4 (x' := (23, [some (.ref 21), some (.ref 16777217), some (.int 0), none], [.int 0, .ref 21, .int 0], h1, 0, 0)) rfl (Nat.le_of_ble_eq_true rfl) (Nat.le_of_ble_eq_true rfl) ?_
  refine ar_put ok_AL_clear rfl e2 (Nat.le_of_ble_eq_true rfl) rfl (fs' := [.ref 16777217, .int 0, .int (md + 1)]) rfl (pc' := 26) rfl (Nat.le_of_ble_eq_true rfl) (Nat.le_of_ble_eq_true rfl) (fun h7 e8 e9 e10 => ?_)
  have fr11 : ∀ q, q ∉ ([21] : List Nat) → h7[q]? = h[q]? := fun q hq => (e9 q (fun z => hq (by rw [z]; decide))).trans (fr5 q (am_sub (by decide) hq))
  have ln12 : h7.length = h.length := e10.trans ln6
  refine am_steps ok_AL_clear 4 (x' := (42, [some (.ref 21), some (.ref 16777217), some (.int 0), some (.int 0)], [], h7, 0, 0)) rfl (Nat.le_of_ble_eq_true rfl) (Nat.le_of_ble_eq_true rfl) ?_
  exact am_ret ok_AL_clear rfl (Nat.le_of_ble_eq_true rfl) (Nat.le_of_ble_eq_true rfl) ⟨rfl, e8, fun q hq => fr11 q (am_sub (by decide) hq), ln12⟩
set_option maxHeartbeats 4000000 in
set_option maxRecDepth 100000 in
theorem c_alsize (md : Int32) (h : am_H) (c_15 : h[15]? = some (.inr (13, [.ref 16777217, .int 0, .int md])))  : am_Me am_Pr none 0 0 0 0 231 [.ref 15] h (fun r h' => r = some (.int 0) ∧ (∀ q, q ∉ ([] : List Nat) → h'[q]? = h[q]?) ∧ h'.length = h.length) := by
  refine am_enter (d := hd_AL_size) rfl (by decide +kernel) (Nat.le_of_ble_eq_true rfl) ?_
  show am_S _ _ _ _ _ _ _ (0, [some (.ref 15)], [], h, 0, 0) _
  refine am_steps ok_AL_size 1 (x' := (1, [some (.ref 15)], [.ref 15], h, 0, 0)) rfl (Nat.le_of_ble_eq_true rfl) (Nat.le_of_ble_eq_true rfl) ?_
  refine ar_get ok_AL_size rfl c_15 (v := .int 0) rfl (pc' := 4) rfl (Nat.le_of_ble_eq_true rfl) (Nat.le_of_ble_eq_true rfl) ?_
  exact am_ret ok_AL_size rfl (Nat.le_of_ble_eq_true rfl) (Nat.le_of_ble_eq_true rfl) ⟨rfl, fun _ _ => rfl, rfl⟩
set_option maxHeartbeats 4000000 in
set_option maxRecDepth 100000 in
theorem c_bbday (g : Nat → Option Nat) (h : am_H) (c_10 : h[10]? = some (.inr (4, [.ref 11, .int 1, .ref 12, .int 0, .int (-1), .int 0, .long 0]))) (c_11 : h[11]? = some (.inl (4, 256, .inr (.inr (.inr (.inr g)))))) (c_13 : h[13]? = some (.inr (9, [.int 574976, .int 1, .ref 14, .ref 15, .long 0]))) (c_15 : h[15]? = some (.inr (13, [.ref 16777217, .int 0, .int 0]))) (hg0 : g 0 = some 13) : am_Me am_Pr none 1 20 0 0 128 [.ref 10] h (fun r h' => r = none ∧ (∀ q, q ∉ ([] : List Nat) → h'[q]? = h[q]?) ∧ h'.length = h.length) := by
  refine am_enter (d := hd_Bo_beginDay) rfl (by decide +kernel) (Nat.le_of_ble_eq_true rfl) ?_
  show am_S _ _ _ _ _ _ _ (0, [some (.ref 10), none, none, none, none], [], h, 0, 0) _
  refine am_steps ok_Bo_beginDay 4 (x' := (4, [some (.ref 10), some (.int 0), none, none, none], [.ref 10, .int 0], h, 0, 0)) rfl (Nat.le_of_ble_eq_true rfl) (Nat.le_of_ble_eq_true rfl) ?_
  refine ar_get ok_Bo_beginDay rfl c_10 (v := .int 1) rfl (pc' := 7) rfl (Nat.le_of_ble_eq_true rfl) (Nat.le_of_ble_eq_true rfl) ?_
  refine am_steps ok_Bo_beginDay 2 (x' := (11, [some (.ref 10), some (.int 0), none, none, none], [.ref 10], h, 0, 0)) rfl (Nat.le_of_ble_eq_true rfl) (Nat.le_of_ble_eq_true rfl) ?_
  refine ar_get ok_Bo_beginDay rfl c_10 (v := .ref 11) rfl (pc' := 14) rfl (Nat.le_of_ble_eq_true rfl) (Nat.le_of_ble_eq_true rfl) ?_
  refine am_steps ok_Bo_beginDay 1 (x' := (15, [some (.ref 10), some (.int 0), none, none, none], [.int 0, .ref 11], h, 0, 0)) rfl (Nat.le_of_ble_eq_true rfl) (Nat.le_of_ble_eq_true rfl) ?_
  refine ar_aald ok_Bo_beginDay rfl c_11 ⟨by decide, by decide⟩ (jx := 0) rfl hg0 (pc' := 16) rfl (Nat.le_of_ble_eq_true rfl) (Nat.le_of_ble_eq_true rfl) ?_
  refine ar_get ok_Bo_beginDay rfl c_13 (v := .ref 14) rfl (pc' := 19) rfl (Nat.le_of_ble_eq_true rfl) (Nat.le_of_ble_eq_true rfl) ?_
  refine am_steps ok_Bo_beginDay 5 (x' := (24, [some (.ref 10), some (.int 0), some (.ref 14), some (.int 0), none], [.ref 10, .int 0], h, 0, 0)) rfl (Nat.le_of_ble_eq_true rfl) (Nat.le_of_ble_eq_true rfl) ?_
  refine ar_get ok_Bo_beginDay rfl c_10 (v := .int 0) rfl (pc' := 27) rfl (Nat.le_of_ble_eq_true rfl) (Nat.le_of_ble_eq_true rfl) ?_
  refine am_steps ok_Bo_beginDay 2 (x' := (49, [some (.ref 10), some (.int 0), some (.ref 14), some (.int 0), none], [.ref 10], h, 0, 0)) rfl (Nat.le_of_ble_eq_true rfl) (Nat.le_of_ble_eq_true rfl) ?_
  refine ar_get ok_Bo_beginDay rfl c_10 (v := .ref 11) rfl (pc' := 52) rfl (Nat.le_of_ble_eq_true rfl) (Nat.le_of_ble_eq_true rfl) ?_
  refine am_steps ok_Bo_beginDay 1 (x' := (53, [some (.ref 10), some (.int 0), some (.ref 14), some (.int 0), none], [.int 0, .ref 11], h, 0, 0)) rfl (Nat.le_of_ble_eq_true rfl) (Nat.le_of_ble_eq_true rfl) ?_
  refine ar_aald ok_Bo_beginDay rfl c_11 ⟨by decide, by decide⟩ (jx := 0) rfl hg0 (pc' := 54) rfl (Nat.le_of_ble_eq_true rfl) (Nat.le_of_ble_eq_true rfl) ?_
  refine ar_get ok_Bo_beginDay rfl c_13 (v := .ref 15) rfl (pc' := 57) rfl (Nat.le_of_ble_eq_true rfl) (Nat.le_of_ble_eq_true rfl) ?_
  refine am_steps ok_Bo_beginDay 5 (x' := (64, [some (.ref 10), some (.int 0), some (.ref 14), some (.ref 15), some (.int 0)], [.ref 15, .int 0], h, 0, 0)) rfl (Nat.le_of_ble_eq_true rfl) (Nat.le_of_ble_eq_true rfl) ?_
  refine ar_cv ok_Bo_beginDay hk_AL_size rfl rfl (As := []) (ad := 15) (rest := [.int 0]) rfl rfl c_15 (by decide) (c_alsize 0 h c_15 ) (Nat.le_of_ble_eq_true rfl) (Nat.le_of_ble_eq_true rfl) (Nat.le_of_ble_eq_true rfl) (Nat.le_of_ble_eq_true rfl) (pc' := 67) rfl (fun r1 h2 q3 => ?_)
  obtain ⟨rfl, f4, l5⟩ := q3
  show am_S _ _ _ _ _ _ _ (67, [some (.ref 10), some (.int 0), some (.ref 14), some (.ref 15), some (.int 0)], [.int 0, .int 0], h2, 0, 0) _
  have c6 := (f4 10 (by decide)).trans c_10
  have c7 := (f4 11 (by decide)).trans c_11
  have c8 := (f4 13 (by decide)).trans c_13
  have c9 := (f4 15 (by decide)).trans c_15
  have fr10 : ∀ q, q ∉ ([] : List Nat) → h2[q]? = h[q]? := fun q hq => f4 q (am_sub (by decide) hq)
  have ln11 : h2.length = h.length := l5
  refine am_steps ok_Bo_beginDay 5 (x' := (4, [some (.ref 10), some (.int 1), some (.ref 14), some (.ref 15), some (.int 0)], [.ref 10, .int 1], h2, 0, 0)) rfl (Nat.le_of_ble_eq_true rfl) (Nat.le_of_ble_eq_true rfl) ?_
  refine ar_get ok_Bo_beginDay rfl c6 (v := .int 1) rfl (pc' := 7) rfl (Nat.le_of_ble_eq_true rfl) (Nat.le_of_ble_eq_true rfl) ?_
  refine am_steps ok_Bo_beginDay 1 (x' := (95, [some (.ref 10), some (.int 1), some (.ref 14), some (.ref 15), some (.int 0)], [], h2, 0, 0)) rfl (Nat.le_of_ble_eq_true rfl) (Nat.le_of_ble_eq_true rfl) ?_
  exact am_ret ok_Bo_beginDay rfl (Nat.le_of_ble_eq_true rfl) (Nat.le_of_ble_eq_true rfl) ⟨rfl, fun q hq => fr10 q (am_sub (by decide) hq), ln11⟩
set_option maxHeartbeats 4000000 in
set_option maxRecDepth 100000 in
theorem c_snapb  (h : am_H) (c_10 : h[10]? = some (.inr (4, [.ref 11, .int 1, .ref 12, .int 0, .int (-1), .int 0, .long 0])))  : am_Me am_Pr none 1 23 0 0 129 [.ref 10] h (fun r h' => r = some (.int 24) ∧ (∀ q, q ∉ ([] : List Nat) → h'[q]? = h[q]?) ∧ h'.length = h.length) := by
  refine am_enter (d := hd_Bo_snapshotBytes) rfl (by decide +kernel) (Nat.le_of_ble_eq_true rfl) ?_
  show am_S _ _ _ _ _ _ _ (0, [some (.ref 10), none, none, none], [], h, 0, 0) _
  refine am_steps ok_Bo_snapshotBytes 1 (x' := (1, [some (.ref 10), none, none, none], [.ref 10], h, 0, 0)) rfl (Nat.le_of_ble_eq_true rfl) (Nat.le_of_ble_eq_true rfl) ?_
  refine ar_get ok_Bo_snapshotBytes rfl c_10 (v := .int 0) rfl (pc' := 4) rfl (Nat.le_of_ble_eq_true rfl) (Nat.le_of_ble_eq_true rfl) ?_
  refine am_steps ok_Bo_snapshotBytes 5 (x' := (9, [some (.ref 10), some (.int 0), some (.int 0), none], [.ref 10, .int 0], h, 0, 0)) rfl (Nat.le_of_ble_eq_true rfl) (Nat.le_of_ble_eq_true rfl) ?_
  refine ar_get ok_Bo_snapshotBytes rfl c_10 (v := .int 1) rfl (pc' := 12) rfl (Nat.le_of_ble_eq_true rfl) (Nat.le_of_ble_eq_true rfl) ?_
  refine am_steps ok_Bo_snapshotBytes 5 (x' := (19, [some (.ref 10), some (.int 0), some (.int 0), some (.int 0)], [.ref 10, .int 0], h, 0, 0)) rfl (Nat.le_of_ble_eq_true rfl) (Nat.le_of_ble_eq_true rfl) ?_
  refine ar_get ok_Bo_snapshotBytes rfl c_10 (v := .int 0) rfl (pc' := 22) rfl (Nat.le_of_ble_eq_true rfl) (Nat.le_of_ble_eq_true rfl) ?_
  refine am_steps ok_Bo_snapshotBytes 5 (x' := (9, [some (.ref 10), some (.int 0), some (.int 1), some (.int 0)], [.ref 10, .int 1], h, 0, 0)) rfl (Nat.le_of_ble_eq_true rfl) (Nat.le_of_ble_eq_true rfl) ?_
  refine ar_get ok_Bo_snapshotBytes rfl c_10 (v := .int 1) rfl (pc' := 12) rfl (Nat.le_of_ble_eq_true rfl) (Nat.le_of_ble_eq_true rfl) ?_
  refine am_steps ok_Bo_snapshotBytes 4 (x' := (79, [some (.ref 10), some (.int 0), some (.int 1), some (.int 0)], [.ref 10, .int 4, .int 20], h, 0, 0)) rfl (Nat.le_of_ble_eq_true rfl) (Nat.le_of_ble_eq_true rfl) ?_
  refine ar_get ok_Bo_snapshotBytes rfl c_10 (v := .int 1) rfl (pc' := 82) rfl (Nat.le_of_ble_eq_true rfl) (Nat.le_of_ble_eq_true rfl) ?_
  refine am_steps ok_Bo_snapshotBytes 4 (x' := (87, [some (.ref 10), some (.int 0), some (.int 1), some (.int 0)], [.ref 10, .int 14, .int 24], h, 0, 0)) rfl (Nat.le_of_ble_eq_true rfl) (Nat.le_of_ble_eq_true rfl) ?_
  refine ar_get ok_Bo_snapshotBytes rfl c_10 (v := .int 0) rfl (pc' := 90) rfl (Nat.le_of_ble_eq_true rfl) (Nat.le_of_ble_eq_true rfl) ?_
  refine am_steps ok_Bo_snapshotBytes 6 (x' := (97, [some (.ref 10), some (.int 0), some (.int 1), some (.int 0)], [.int 24], h, 0, 0)) rfl (Nat.le_of_ble_eq_true rfl) (Nat.le_of_ble_eq_true rfl) ?_
  exact am_ret ok_Bo_snapshotBytes rfl (Nat.le_of_ble_eq_true rfl) (Nat.le_of_ble_eq_true rfl) ⟨rfl, fun _ _ => rfl, rfl⟩
set_option maxHeartbeats 4000000 in
set_option maxRecDepth 100000 in
theorem c_dbday (d : Int32) (t : Int32) (md : Int32) (g : Nat → Option Nat) (h : am_H) (c_20 : h[20]? = some (.inr (5, [.ref 10, .ref 16, .ref 21, .int d, .int t]))) (c_21 : h[21]? = some (.inr (13, [.ref 16777217, .int 0, .int md]))) (c_10 : h[10]? = some (.inr (4, [.ref 11, .int 1, .ref 12, .int 0, .int (-1), .int 0, .long 0]))) (c_11 : h[11]? = some (.inl (4, 256, .inr (.inr (.inr (.inr g)))))) (c_13 : h[13]? = some (.inr (9, [.int 574976, .int 1, .ref 14, .ref 15, .long 0]))) (c_15 : h[15]? = some (.inr (13, [.ref 16777217, .int 0, .int 0]))) (hg0 : g 0 = some 13) : am_Me am_Pr none 2 44 0 0 161 [.ref 20] h (fun r h' => r = none ∧ h'[20]? = some (.inr (5, [.ref 10, .ref 16, .ref 21, .int (d + 1), .int 0])) ∧ h'[21]? = some (.inr (13, [.ref 16777217, .int 0, .int (md + 1)])) ∧ (∀ q, q ∉ ([20, 21] : List Nat) → h'[q]? = h[q]?) ∧ h'.length = h.length) := by
  refine am_enter (d := hd_De_beginDay) rfl (by decide +kernel) (Nat.le_of_ble_eq_true rfl) ?_
  show am_S _ _ _ _ _ _ _ (0, [some (.ref 20)], [], h, 0, 0) _
  refine am_steps ok_De_beginDay 2 (x' := (2, [some (.ref 20)], [.int 0, .ref 20], h, 0, 0)) rfl (Nat.le_of_ble_eq_true rfl) (Nat.le_of_ble_eq_true rfl) ?_
  refine ar_put ok_De_beginDay rfl c_20 (Nat.le_of_ble_eq_true rfl) rfl (fs' := [.ref 10, .ref 16, .ref 21, .int d, .int 0]) rfl (pc' := 5) rfl (Nat.le_of_ble_eq_true rfl) (Nat.le_of_ble_eq_true rfl) (fun h1 e2 e3 e4 => ?_)
  have c5 := (e3 21 (by decide)).trans c_21
  have c6 := (e3 10 (by decide)).trans c_10
  have c7 := (e3 11 (by decide)).trans c_11
  have c8 := (e3 13 (by decide)).trans c_13
  have c9 := (e3 15 (by decide)).trans c_15
  have fr10 : ∀ q, q ∉ ([20] : List Nat) → h1[q]? = h[q]? := fun q hq => e3 q (fun z => hq (by rw [z]; decide))
  have ln11 : h1.length = h.length := e4
  refine am_steps ok_De_beginDay 2 (x' := (7, [some (.ref 20)], [.ref 20, .ref 20], h1, 0, 0)) rfl (Nat.le_of_ble_eq_true rfl) (Nat.le_of_ble_eq_true rfl) ?_
  refine ar_get ok_De_beginDay rfl e2 (v := .int d) rfl (pc' := 10) rfl (Nat.le_of_ble_eq_true rfl) (Nat.le_of_ble_eq_true rfl) ?_
  refine am_steps ok_De_beginDay 2 (x' := (12, [some (.ref 20)], [.int (d + 1), .ref 20], h1, 0, 0)) rfl (Nat.le_of_ble_eq_true rfl) (Nat.le_of_ble_eq_true rfl) ?_
  refine ar_put ok_De_beginDay rfl e2 (Nat.le_of_ble_eq_true rfl) rfl (fs' := [.ref 10, .ref 16, .ref 21, .int (d + 1), .int 0]) rfl (pc' := 15) rfl (Nat.le_of_ble_eq_true rfl) (Nat.le_of_ble_eq_true rfl) (fun h12 e13 e14 e15 => ?_)
  have c16 := (e14 21 (by decide)).trans c5
  have c17 := (e14 10 (by decide)).trans c6
  have c18 := (e14 11 (by decide)).trans c7
  have c19 := (e14 13 (by decide)).trans c8
  have c20 := (e14 15 (by decide)).trans c9
  have fr21 : ∀ q, q ∉ ([20] : List Nat) → h12[q]? = h[q]? := fun q hq => (e14 q (fun z => hq (by rw [z]; decide))).trans (fr10 q (am_sub (by decide) hq))
  have ln22 : h12.length = h.length := e15.trans ln11
  refine am_steps ok_De_beginDay 1 (x' := (16, [some (.ref 20)], [.ref 20], h12, 0, 0)) rfl (Nat.le_of_ble_eq_true rfl) (Nat.le_of_ble_eq_true rfl) ?_
  refine ar_get ok_De_beginDay rfl e13 (v := .ref 21) rfl (pc' := 19) rfl (Nat.le_of_ble_eq_true rfl) (Nat.le_of_ble_eq_true rfl) ?_
  refine ar_cv ok_De_beginDay hk_AL_clear rfl rfl (As := []) (ad := 21) (rest := []) rfl rfl c16 (by decide) (c_alclear md h12 c16 ) (Nat.le_of_ble_eq_true rfl) (Nat.le_of_ble_eq_true rfl) (Nat.le_of_ble_eq_true rfl) (Nat.le_of_ble_eq_true rfl) (pc' := 22) rfl (fun r23 h24 q25 => ?_)
  obtain ⟨rfl, e26, f27, l28⟩ := q25
  show am_S _ _ _ _ _ _ _ (22, [some (.ref 20)], [], h24, 0, 0) _
  have c29 := (f27 20 (by decide)).trans e13
  have c30 := (f27 10 (by decide)).trans c17
  have c31 := (f27 11 (by decide)).trans c18
  have c32 := (f27 13 (by decide)).trans c19
  have c33 := (f27 15 (by decide)).trans c20
  have fr34 : ∀ q, q ∉ ([20, 21] : List Nat) → h24[q]? = h[q]? := fun q hq => (f27 q (am_sub (by decide) hq)).trans (fr21 q (am_sub (by decide) hq))
  have ln35 : h24.length = h.length := l28.trans ln22
  refine am_steps ok_De_beginDay 1 (x' := (23, [some (.ref 20)], [.ref 20], h24, 0, 0)) rfl (Nat.le_of_ble_eq_true rfl) (Nat.le_of_ble_eq_true rfl) ?_
  refine ar_get ok_De_beginDay rfl c29 (v := .ref 10) rfl (pc' := 26) rfl (Nat.le_of_ble_eq_true rfl) (Nat.le_of_ble_eq_true rfl) ?_
  refine ar_cv ok_De_beginDay hk_Bo_beginDay rfl rfl (As := []) (ad := 10) (rest := []) rfl rfl c30 (by decide) (c_bbday g h24 c30 c31 c32 c33 hg0) (Nat.le_of_ble_eq_true rfl) (Nat.le_of_ble_eq_true rfl) (Nat.le_of_ble_eq_true rfl) (Nat.le_of_ble_eq_true rfl) (pc' := 29) rfl (fun r36 h37 q38 => ?_)
  obtain ⟨rfl, f39, l40⟩ := q38
  show am_S _ _ _ _ _ _ _ (29, [some (.ref 20)], [], h37, 0, 0) _
  have c41 := (f39 20 (by decide)).trans c29
  have c42 := (f39 21 (by decide)).trans e26
  have c43 := (f39 10 (by decide)).trans c30
  have c44 := (f39 11 (by decide)).trans c31
  have c45 := (f39 13 (by decide)).trans c32
  have c46 := (f39 15 (by decide)).trans c33
  have fr47 : ∀ q, q ∉ ([20, 21] : List Nat) → h37[q]? = h[q]? := fun q hq => (f39 q (am_sub (by decide) hq)).trans (fr34 q (am_sub (by decide) hq))
  have ln48 : h37.length = h.length := l40.trans ln35
  exact am_ret ok_De_beginDay rfl (Nat.le_of_ble_eq_true rfl) (Nat.le_of_ble_eq_true rfl) ⟨rfl, c41, c42, fun q hq => fr47 q (am_sub (by decide) hq), ln48⟩
