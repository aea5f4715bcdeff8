def am_ct (x : Int32) : Int32 := if x = 0 then 1 else if x = 3 then 1 else if x.toInt < 0 ∨ 9 < x.toInt then -1 else 0
theorem am_sw10 (x : Int32) : x = 0 ∨ x = 1 ∨ x = 2 ∨ x = 3 ∨ x = 4 ∨ x = 5 ∨ x = 6 ∨ x = 7 ∨ x = 8 ∨ x = 9 ∨ (x.toInt < 0 ∨ 9 < x.toInt) := by
  by_cases h1 : x.toInt < 0
  · right; right; right; right; right; right; right; right; right; right; left; exact h1
  by_cases h2 : 9 < x.toInt
  · right; right; right; right; right; right; right; right; right; right; right; exact h2
  have key : ∀ k : Int32, x.toInt = k.toInt → x = k := fun k h => Int32.toInt_inj.mp h
  have h3 : x.toInt = 0 ∨ x.toInt = 1 ∨ x.toInt = 2 ∨ x.toInt = 3 ∨ x.toInt = 4 ∨ x.toInt = 5 ∨ x.toInt = 6 ∨ x.toInt = 7 ∨ x.toInt = 8 ∨ x.toInt = 9 := by omega
  rcases h3 with h | h | h | h | h | h | h | h | h | h
  · left; exact key 0 h
  · right; left; exact key 1 h
  · right; right; left; exact key 2 h
  · right; right; right; left; exact key 3 h
  · right; right; right; right; left; exact key 4 h
  · right; right; right; right; right; left; exact key 5 h
  · right; right; right; right; right; right; left; exact key 6 h
  · right; right; right; right; right; right; right; left; exact key 7 h
  · right; right; right; right; right; right; right; right; left; exact key 8 h
  · right; right; right; right; right; right; right; right; right; left; exact key 9 h
theorem am_ct_out {x : Int32} (hx : x.toInt < 0 ∨ 9 < x.toInt) : am_ct x = -1 := by
  unfold am_ct
  rw [if_neg (fun e => by subst e; revert hx; decide), if_neg (fun e => by subst e; revert hx; decide), if_pos hx]
set_option maxHeartbeats 4000000 in
set_option maxRecDepth 100000 in
theorem c_whup0  (h : am_H) (c_0 : h[0]? = some (.inr (0, [.ref 1, .int 0, .ref 2, .ref 7, .ref 9, .ref 10, .ref 16, .ref 20]))) (c_9 : h[9]? = some (.inr (6, [.int 1, .int (-1), .int 0, .int 0])))  : am_Me am_Pr none 0 0 0 0 10 [.ref 0, .int 0] h (fun r h' => r = some (.int 0) ∧ (∀ q, q ∉ ([] : List Nat) → h'[q]? = h[q]?) ∧ h'.length = h.length) := by
  refine am_enter (d := hd_Ho_whileUp) rfl (by decide +kernel) (Nat.le_of_ble_eq_true rfl) ?_
  show am_S _ _ _ _ _ _ _ (0, [some (.ref 0), some (.int 0)], [], h, 0, 0) _
  refine am_steps ok_Ho_whileUp 1 (x' := (1, [some (.ref 0), some (.int 0)], [.ref 0], h, 0, 0)) rfl (Nat.le_of_ble_eq_true rfl) (Nat.le_of_ble_eq_true rfl) ?_
  refine ar_get ok_Ho_whileUp rfl c_0 (v := .ref 9) rfl (pc' := 4) rfl (Nat.le_of_ble_eq_true rfl) (Nat.le_of_ble_eq_true rfl) ?_
  refine ar_get ok_Ho_whileUp rfl c_9 (v := .int 1) rfl (pc' := 7) rfl (Nat.le_of_ble_eq_true rfl) (Nat.le_of_ble_eq_true rfl) ?_
  refine am_steps ok_Ho_whileUp 3 (x' := (15, [some (.ref 0), some (.int 0)], [.int 0], h, 0, 0)) rfl (Nat.le_of_ble_eq_true rfl) (Nat.le_of_ble_eq_true rfl) ?_
  exact am_ret ok_Ho_whileUp rfl (Nat.le_of_ble_eq_true rfl) (Nat.le_of_ble_eq_true rfl) ⟨rfl, fun _ _ => rfl, rfl⟩
set_option maxHeartbeats 4000000 in
set_option maxRecDepth 100000 in
theorem c_whup1  (h : am_H) (c_0 : h[0]? = some (.inr (0, [.ref 1, .int 0, .ref 2, .ref 7, .ref 9, .ref 10, .ref 16, .ref 20]))) (c_9 : h[9]? = some (.inr (6, [.int 1, .int (-1), .int 0, .int 0])))  : am_Me am_Pr none 0 0 0 0 10 [.ref 0, .int 1] h (fun r h' => r = some (.int 1) ∧ (∀ q, q ∉ ([] : List Nat) → h'[q]? = h[q]?) ∧ h'.length = h.length) := by
  refine am_enter (d := hd_Ho_whileUp) rfl (by decide +kernel) (Nat.le_of_ble_eq_true rfl) ?_
  show am_S _ _ _ _ _ _ _ (0, [some (.ref 0), some (.int 1)], [], h, 0, 0) _
  refine am_steps ok_Ho_whileUp 1 (x' := (1, [some (.ref 0), some (.int 1)], [.ref 0], h, 0, 0)) rfl (Nat.le_of_ble_eq_true rfl) (Nat.le_of_ble_eq_true rfl) ?_
  refine ar_get ok_Ho_whileUp rfl c_0 (v := .ref 9) rfl (pc' := 4) rfl (Nat.le_of_ble_eq_true rfl) (Nat.le_of_ble_eq_true rfl) ?_
  refine ar_get ok_Ho_whileUp rfl c_9 (v := .int 1) rfl (pc' := 7) rfl (Nat.le_of_ble_eq_true rfl) (Nat.le_of_ble_eq_true rfl) ?_
  refine am_steps ok_Ho_whileUp 3 (x' := (15, [some (.ref 0), some (.int 1)], [.int 1], h, 0, 0)) rfl (Nat.le_of_ble_eq_true rfl) (Nat.le_of_ble_eq_true rfl) ?_
  exact am_ret ok_Ho_whileUp rfl (Nat.le_of_ble_eq_true rfl) (Nat.le_of_ble_eq_true rfl) ⟨rfl, fun _ _ => rfl, rfl⟩
set_option maxHeartbeats 4000000 in
set_option maxRecDepth 100000 in
theorem t_count_0  (h : am_H) (c_0 : h[0]? = some (.inr (0, [.ref 1, .int 0, .ref 2, .ref 7, .ref 9, .ref 10, .ref 16, .ref 20]))) (c_9 : h[9]? = some (.inr (6, [.int 1, .int (-1), .int 0, .int 0]))) (c_10 : h[10]? = some (.inr (4, [.ref 11, .int 1, .ref 12, .int 0, .int (-1), .int 0, .long 0]))) (c_16 : h[16]? = some (.inr (11, [.ref 17, .int 0, .ref 18, .int 0, .ref 19, .int 0, .int 0]))) (c_20 : h[20]? = some (.inr (5, [.ref 10, .ref 16, .ref 21, .int 0, .int 0])))  : am_Me am_Pr none 2 40 0 0 8 [.ref 0, .int 0] h (fun r h' => r = some (.int (am_ct 0)) ∧ ∀ q, q ∉ ([0, 1, 2, 3, 4, 5, 6, 7, 8, 9, 10, 11, 12, 13, 14, 15, 16, 17, 18, 19, 20, 21] : List Nat) → h'[q]? = h[q]?) := by
  refine am_enter (d := hd_Ho_count) rfl (by decide +kernel) (Nat.le_of_ble_eq_true rfl) ?_
  show am_S _ _ _ _ _ _ _ (0, [some (.ref 0), some (.int 0)], [], h, 0, 0) _
  refine am_steps ok_Ho_count 3 (x' := (57, [some (.ref 0), some (.int 0)], [.ref 0], h, 0, 0)) rfl (Nat.le_of_ble_eq_true rfl) (Nat.le_of_ble_eq_true rfl) ?_
  refine ar_get ok_Ho_count rfl c_0 (v := .ref 9) rfl (pc' := 60) rfl (Nat.le_of_ble_eq_true rfl) (Nat.le_of_ble_eq_true rfl) ?_
  refine ar_get ok_Ho_count rfl c_9 (v := .int 1) rfl (pc' := 63) rfl (Nat.le_of_ble_eq_true rfl) (Nat.le_of_ble_eq_true rfl) ?_
  refine am_steps ok_Ho_count 3 (x' := (71, [some (.ref 0), some (.int 0)], [.int 1], h, 0, 0)) rfl (Nat.le_of_ble_eq_true rfl) (Nat.le_of_ble_eq_true rfl) ?_
  exact am_ret ok_Ho_count rfl (Nat.le_of_ble_eq_true rfl) (Nat.le_of_ble_eq_true rfl) ⟨(by decide +kernel), fun _ _ => rfl⟩
set_option maxHeartbeats 4000000 in
set_option maxRecDepth 100000 in
theorem t_count_1  (h : am_H) (c_0 : h[0]? = some (.inr (0, [.ref 1, .int 0, .ref 2, .ref 7, .ref 9, .ref 10, .ref 16, .ref 20]))) (c_9 : h[9]? = some (.inr (6, [.int 1, .int (-1), .int 0, .int 0]))) (c_10 : h[10]? = some (.inr (4, [.ref 11, .int 1, .ref 12, .int 0, .int (-1), .int 0, .long 0]))) (c_16 : h[16]? = some (.inr (11, [.ref 17, .int 0, .ref 18, .int 0, .ref 19, .int 0, .int 0]))) (c_20 : h[20]? = some (.inr (5, [.ref 10, .ref 16, .ref 21, .int 0, .int 0])))  : am_Me am_Pr none 2 40 0 0 8 [.ref 0, .int 1] h (fun r h' => r = some (.int (am_ct 1)) ∧ ∀ q, q ∉ ([0, 1, 2, 3, 4, 5, 6, 7, 8, 9, 10, 11, 12, 13, 14, 15, 16, 17, 18, 19, 20, 21] : List Nat) → h'[q]? = h[q]?) := by
  refine am_enter (d := hd_Ho_count) rfl (by decide +kernel) (Nat.le_of_ble_eq_true rfl) ?_
  show am_S _ _ _ _ _ _ _ (0, [some (.ref 0), some (.int 1)], [], h, 0, 0) _
  refine am_steps ok_Ho_count 4 (x' := (74, [some (.ref 0), some (.int 1)], [.ref 0, .ref 0], h, 0, 0)) rfl (Nat.le_of_ble_eq_true rfl) (Nat.le_of_ble_eq_true rfl) ?_
  refine ar_get ok_Ho_count rfl c_0 (v := .ref 20) rfl (pc' := 77) rfl (Nat.le_of_ble_eq_true rfl) (Nat.le_of_ble_eq_true rfl) ?_
  refine ar_get ok_Ho_count rfl c_20 (v := .int 0) rfl (pc' := 80) rfl (Nat.le_of_ble_eq_true rfl) (Nat.le_of_ble_eq_true rfl) ?_
  refine ar_cv ok_Ho_count hk_Ho_whileUp rfl rfl (As := [.int 0]) (ad := 0) (rest := []) rfl rfl c_0 (by decide) (c_whup0  h c_0 c_9 ) (Nat.le_of_ble_eq_true rfl) (Nat.le_of_ble_eq_true rfl) (Nat.le_of_ble_eq_true rfl) (Nat.le_of_ble_eq_true rfl) (pc' := 83) rfl (fun r1 h2 q3 => ?_)
  obtain ⟨rfl, f4, l5⟩ := q3
  show am_S _ _ _ _ _ _ _ (83, [some (.ref 0), some (.int 1)], [.int 0], h2, 0, 0) _
  have c6 := (f4 0 (by decide)).trans c_0
  have c7 := (f4 9 (by decide)).trans c_9
  have c8 := (f4 10 (by decide)).trans c_10
  have c9 := (f4 16 (by decide)).trans c_16
  have c10 := (f4 20 (by decide)).trans c_20
  have fr11 : ∀ q, q ∉ ([] : List Nat) → h2[q]? = h[q]? := fun q hq => f4 q (am_sub (by decide) hq)
  have ln12 : h2.length = h.length := l5
  exact am_ret ok_Ho_count rfl (Nat.le_of_ble_eq_true rfl) (Nat.le_of_ble_eq_true rfl) ⟨(by decide +kernel), fun q hq => fr11 q (am_sub (by decide) hq)⟩
set_option maxHeartbeats 4000000 in
set_option maxRecDepth 100000 in
theorem t_count_2  (h : am_H) (c_0 : h[0]? = some (.inr (0, [.ref 1, .int 0, .ref 2, .ref 7, .ref 9, .ref 10, .ref 16, .ref 20]))) (c_9 : h[9]? = some (.inr (6, [.int 1, .int (-1), .int 0, .int 0]))) (c_10 : h[10]? = some (.inr (4, [.ref 11, .int 1, .ref 12, .int 0, .int (-1), .int 0, .long 0]))) (c_16 : h[16]? = some (.inr (11, [.ref 17, .int 0, .ref 18, .int 0, .ref 19, .int 0, .int 0]))) (c_20 : h[20]? = some (.inr (5, [.ref 10, .ref 16, .ref 21, .int 0, .int 0])))  : am_Me am_Pr none 2 40 0 0 8 [.ref 0, .int 2] h (fun r h' => r = some (.int (am_ct 2)) ∧ ∀ q, q ∉ ([0, 1, 2, 3, 4, 5, 6, 7, 8, 9, 10, 11, 12, 13, 14, 15, 16, 17, 18, 19, 20, 21] : List Nat) → h'[q]? = h[q]?) := by
  refine am_enter (d := hd_Ho_count) rfl (by decide +kernel) (Nat.le_of_ble_eq_true rfl) ?_
  show am_S _ _ _ _ _ _ _ (0, [some (.ref 0), some (.int 2)], [], h, 0, 0) _
  refine am_steps ok_Ho_count 4 (x' := (86, [some (.ref 0), some (.int 2)], [.ref 0, .ref 0], h, 0, 0)) rfl (Nat.le_of_ble_eq_true rfl) (Nat.le_of_ble_eq_true rfl) ?_
  refine ar_get ok_Ho_count rfl c_0 (v := .ref 20) rfl (pc' := 89) rfl (Nat.le_of_ble_eq_true rfl) (Nat.le_of_ble_eq_true rfl) ?_
  refine ar_get ok_Ho_count rfl c_20 (v := .int 0) rfl (pc' := 92) rfl (Nat.le_of_ble_eq_true rfl) (Nat.le_of_ble_eq_true rfl) ?_
  refine ar_cv ok_Ho_count hk_Ho_whileUp rfl rfl (As := [.int 0]) (ad := 0) (rest := []) rfl rfl c_0 (by decide) (c_whup0  h c_0 c_9 ) (Nat.le_of_ble_eq_true rfl) (Nat.le_of_ble_eq_true rfl) (Nat.le_of_ble_eq_true rfl) (Nat.le_of_ble_eq_true rfl) (pc' := 95) rfl (fun r1 h2 q3 => ?_)
  obtain ⟨rfl, f4, l5⟩ := q3
  show am_S _ _ _ _ _ _ _ (95, [some (.ref 0), some (.int 2)], [.int 0], h2, 0, 0) _
  have c6 := (f4 0 (by decide)).trans c_0
  have c7 := (f4 9 (by decide)).trans c_9
  have c8 := (f4 10 (by decide)).trans c_10
  have c9 := (f4 16 (by decide)).trans c_16
  have c10 := (f4 20 (by decide)).trans c_20
  have fr11 : ∀ q, q ∉ ([] : List Nat) → h2[q]? = h[q]? := fun q hq => f4 q (am_sub (by decide) hq)
  have ln12 : h2.length = h.length := l5
  exact am_ret ok_Ho_count rfl (Nat.le_of_ble_eq_true rfl) (Nat.le_of_ble_eq_true rfl) ⟨(by decide +kernel), fun q hq => fr11 q (am_sub (by decide) hq)⟩
set_option maxHeartbeats 4000000 in
set_option maxRecDepth 100000 in
theorem t_count_3  (h : am_H) (c_0 : h[0]? = some (.inr (0, [.ref 1, .int 0, .ref 2, .ref 7, .ref 9, .ref 10, .ref 16, .ref 20]))) (c_9 : h[9]? = some (.inr (6, [.int 1, .int (-1), .int 0, .int 0]))) (c_10 : h[10]? = some (.inr (4, [.ref 11, .int 1, .ref 12, .int 0, .int (-1), .int 0, .long 0]))) (c_16 : h[16]? = some (.inr (11, [.ref 17, .int 0, .ref 18, .int 0, .ref 19, .int 0, .int 0]))) (c_20 : h[20]? = some (.inr (5, [.ref 10, .ref 16, .ref 21, .int 0, .int 0])))  : am_Me am_Pr none 2 40 0 0 8 [.ref 0, .int 3] h (fun r h' => r = some (.int (am_ct 3)) ∧ ∀ q, q ∉ ([0, 1, 2, 3, 4, 5, 6, 7, 8, 9, 10, 11, 12, 13, 14, 15, 16, 17, 18, 19, 20, 21] : List Nat) → h'[q]? = h[q]?) := by
  refine am_enter (d := hd_Ho_count) rfl (by decide +kernel) (Nat.le_of_ble_eq_true rfl) ?_
  show am_S _ _ _ _ _ _ _ (0, [some (.ref 0), some (.int 3)], [], h, 0, 0) _
  refine am_steps ok_Ho_count 4 (x' := (98, [some (.ref 0), some (.int 3)], [.ref 0, .ref 0], h, 0, 0)) rfl (Nat.le_of_ble_eq_true rfl) (Nat.le_of_ble_eq_true rfl) ?_
  refine ar_get ok_Ho_count rfl c_0 (v := .ref 10) rfl (pc' := 101) rfl (Nat.le_of_ble_eq_true rfl) (Nat.le_of_ble_eq_true rfl) ?_
  refine ar_get ok_Ho_count rfl c_10 (v := .int 1) rfl (pc' := 104) rfl (Nat.le_of_ble_eq_true rfl) (Nat.le_of_ble_eq_true rfl) ?_
  refine ar_cv ok_Ho_count hk_Ho_whileUp rfl rfl (As := [.int 1]) (ad := 0) (rest := []) rfl rfl c_0 (by decide) (c_whup1  h c_0 c_9 ) (Nat.le_of_ble_eq_true rfl) (Nat.le_of_ble_eq_true rfl) (Nat.le_of_ble_eq_true rfl) (Nat.le_of_ble_eq_true rfl) (pc' := 107) rfl (fun r1 h2 q3 => ?_)
  obtain ⟨rfl, f4, l5⟩ := q3
  show am_S _ _ _ _ _ _ _ (107, [some (.ref 0), some (.int 3)], [.int 1], h2, 0, 0) _
  have c6 := (f4 0 (by decide)).trans c_0
  have c7 := (f4 9 (by decide)).trans c_9
  have c8 := (f4 10 (by decide)).trans c_10
  have c9 := (f4 16 (by decide)).trans c_16
  have c10 := (f4 20 (by decide)).trans c_20
  have fr11 : ∀ q, q ∉ ([] : List Nat) → h2[q]? = h[q]? := fun q hq => f4 q (am_sub (by decide) hq)
  have ln12 : h2.length = h.length := l5
  exact am_ret ok_Ho_count rfl (Nat.le_of_ble_eq_true rfl) (Nat.le_of_ble_eq_true rfl) ⟨(by decide +kernel), fun q hq => fr11 q (am_sub (by decide) hq)⟩
set_option maxHeartbeats 4000000 in
set_option maxRecDepth 100000 in
theorem t_count_4  (h : am_H) (c_0 : h[0]? = some (.inr (0, [.ref 1, .int 0, .ref 2, .ref 7, .ref 9, .ref 10, .ref 16, .ref 20]))) (c_9 : h[9]? = some (.inr (6, [.int 1, .int (-1), .int 0, .int 0]))) (c_10 : h[10]? = some (.inr (4, [.ref 11, .int 1, .ref 12, .int 0, .int (-1), .int 0, .long 0]))) (c_16 : h[16]? = some (.inr (11, [.ref 17, .int 0, .ref 18, .int 0, .ref 19, .int 0, .int 0]))) (c_20 : h[20]? = some (.inr (5, [.ref 10, .ref 16, .ref 21, .int 0, .int 0])))  : am_Me am_Pr none 2 40 0 0 8 [.ref 0, .int 4] h (fun r h' => r = some (.int (am_ct 4)) ∧ ∀ q, q ∉ ([0, 1, 2, 3, 4, 5, 6, 7, 8, 9, 10, 11, 12, 13, 14, 15, 16, 17, 18, 19, 20, 21] : List Nat) → h'[q]? = h[q]?) := by
  refine am_enter (d := hd_Ho_count) rfl (by decide +kernel) (Nat.le_of_ble_eq_true rfl) ?_
  show am_S _ _ _ _ _ _ _ (0, [some (.ref 0), some (.int 4)], [], h, 0, 0) _
  refine am_steps ok_Ho_count 4 (x' := (110, [some (.ref 0), some (.int 4)], [.ref 0, .ref 0], h, 0, 0)) rfl (Nat.le_of_ble_eq_true rfl) (Nat.le_of_ble_eq_true rfl) ?_
  refine ar_get ok_Ho_count rfl c_0 (v := .ref 10) rfl (pc' := 113) rfl (Nat.le_of_ble_eq_true rfl) (Nat.le_of_ble_eq_true rfl) ?_
  refine ar_get ok_Ho_count rfl c_10 (v := .int 0) rfl (pc' := 116) rfl (Nat.le_of_ble_eq_true rfl) (Nat.le_of_ble_eq_true rfl) ?_
  refine ar_cv ok_Ho_count hk_Ho_whileUp rfl rfl (As := [.int 0]) (ad := 0) (rest := []) rfl rfl c_0 (by decide) (c_whup0  h c_0 c_9 ) (Nat.le_of_ble_eq_true rfl) (Nat.le_of_ble_eq_true rfl) (Nat.le_of_ble_eq_true rfl) (Nat.le_of_ble_eq_true rfl) (pc' := 119) rfl (fun r1 h2 q3 => ?_)
  obtain ⟨rfl, f4, l5⟩ := q3
  show am_S _ _ _ _ _ _ _ (119, [some (.ref 0), some (.int 4)], [.int 0], h2, 0, 0) _
  have c6 := (f4 0 (by decide)).trans c_0
  have c7 := (f4 9 (by decide)).trans c_9
  have c8 := (f4 10 (by decide)).trans c_10
  have c9 := (f4 16 (by decide)).trans c_16
  have c10 := (f4 20 (by decide)).trans c_20
  have fr11 : ∀ q, q ∉ ([] : List Nat) → h2[q]? = h[q]? := fun q hq => f4 q (am_sub (by decide) hq)
  have ln12 : h2.length = h.length := l5
  exact am_ret ok_Ho_count rfl (Nat.le_of_ble_eq_true rfl) (Nat.le_of_ble_eq_true rfl) ⟨(by decide +kernel), fun q hq => fr11 q (am_sub (by decide) hq)⟩
set_option maxHeartbeats 4000000 in
set_option maxRecDepth 100000 in
theorem t_count_5  (h : am_H) (c_0 : h[0]? = some (.inr (0, [.ref 1, .int 0, .ref 2, .ref 7, .ref 9, .ref 10, .ref 16, .ref 20]))) (c_9 : h[9]? = some (.inr (6, [.int 1, .int (-1), .int 0, .int 0]))) (c_10 : h[10]? = some (.inr (4, [.ref 11, .int 1, .ref 12, .int 0, .int (-1), .int 0, .long 0]))) (c_16 : h[16]? = some (.inr (11, [.ref 17, .int 0, .ref 18, .int 0, .ref 19, .int 0, .int 0]))) (c_20 : h[20]? = some (.inr (5, [.ref 10, .ref 16, .ref 21, .int 0, .int 0])))  : am_Me am_Pr none 2 40 0 0 8 [.ref 0, .int 5] h (fun r h' => r = some (.int (am_ct 5)) ∧ ∀ q, q ∉ ([0, 1, 2, 3, 4, 5, 6, 7, 8, 9, 10, 11, 12, 13, 14, 15, 16, 17, 18, 19, 20, 21] : List Nat) → h'[q]? = h[q]?) := by
  refine am_enter (d := hd_Ho_count) rfl (by decide +kernel) (Nat.le_of_ble_eq_true rfl) ?_
  show am_S _ _ _ _ _ _ _ (0, [some (.ref 0), some (.int 5)], [], h, 0, 0) _
  refine am_steps ok_Ho_count 4 (x' := (122, [some (.ref 0), some (.int 5)], [.ref 0, .ref 0], h, 0, 0)) rfl (Nat.le_of_ble_eq_true rfl) (Nat.le_of_ble_eq_true rfl) ?_
  refine ar_get ok_Ho_count rfl c_0 (v := .ref 16) rfl (pc' := 125) rfl (Nat.le_of_ble_eq_true rfl) (Nat.le_of_ble_eq_true rfl) ?_
  refine ar_get ok_Ho_count rfl c_16 (v := .int 0) rfl (pc' := 128) rfl (Nat.le_of_ble_eq_true rfl) (Nat.le_of_ble_eq_true rfl) ?_
  refine ar_cv ok_Ho_count hk_Ho_whileUp rfl rfl (As := [.int 0]) (ad := 0) (rest := []) rfl rfl c_0 (by decide) (c_whup0  h c_0 c_9 ) (Nat.le_of_ble_eq_true rfl) (Nat.le_of_ble_eq_true rfl) (Nat.le_of_ble_eq_true rfl) (Nat.le_of_ble_eq_true rfl) (pc' := 131) rfl (fun r1 h2 q3 => ?_)
  obtain ⟨rfl, f4, l5⟩ := q3
  show am_S _ _ _ _ _ _ _ (131, [some (.ref 0), some (.int 5)], [.int 0], h2, 0, 0) _
  have c6 := (f4 0 (by decide)).trans c_0
  have c7 := (f4 9 (by decide)).trans c_9
  have c8 := (f4 10 (by decide)).trans c_10
  have c9 := (f4 16 (by decide)).trans c_16
  have c10 := (f4 20 (by decide)).trans c_20
  have fr11 : ∀ q, q ∉ ([] : List Nat) → h2[q]? = h[q]? := fun q hq => f4 q (am_sub (by decide) hq)
  have ln12 : h2.length = h.length := l5
  exact am_ret ok_Ho_count rfl (Nat.le_of_ble_eq_true rfl) (Nat.le_of_ble_eq_true rfl) ⟨(by decide +kernel), fun q hq => fr11 q (am_sub (by decide) hq)⟩
set_option maxHeartbeats 4000000 in
set_option maxRecDepth 100000 in
theorem t_count_6  (h : am_H) (c_0 : h[0]? = some (.inr (0, [.ref 1, .int 0, .ref 2, .ref 7, .ref 9, .ref 10, .ref 16, .ref 20]))) (c_9 : h[9]? = some (.inr (6, [.int 1, .int (-1), .int 0, .int 0]))) (c_10 : h[10]? = some (.inr (4, [.ref 11, .int 1, .ref 12, .int 0, .int (-1), .int 0, .long 0]))) (c_16 : h[16]? = some (.inr (11, [.ref 17, .int 0, .ref 18, .int 0, .ref 19, .int 0, .int 0]))) (c_20 : h[20]? = some (.inr (5, [.ref 10, .ref 16, .ref 21, .int 0, .int 0])))  : am_Me am_Pr none 2 40 0 0 8 [.ref 0, .int 6] h (fun r h' => r = some (.int (am_ct 6)) ∧ ∀ q, q ∉ ([0, 1, 2, 3, 4, 5, 6, 7, 8, 9, 10, 11, 12, 13, 14, 15, 16, 17, 18, 19, 20, 21] : List Nat) → h'[q]? = h[q]?) := by
  refine am_enter (d := hd_Ho_count) rfl (by decide +kernel) (Nat.le_of_ble_eq_true rfl) ?_
  show am_S _ _ _ _ _ _ _ (0, [some (.ref 0), some (.int 6)], [], h, 0, 0) _
  refine am_steps ok_Ho_count 4 (x' := (134, [some (.ref 0), some (.int 6)], [.ref 0, .ref 0], h, 0, 0)) rfl (Nat.le_of_ble_eq_true rfl) (Nat.le_of_ble_eq_true rfl) ?_
  refine ar_get ok_Ho_count rfl c_0 (v := .ref 16) rfl (pc' := 137) rfl (Nat.le_of_ble_eq_true rfl) (Nat.le_of_ble_eq_true rfl) ?_
  refine ar_get ok_Ho_count rfl c_16 (v := .int 0) rfl (pc' := 140) rfl (Nat.le_of_ble_eq_true rfl) (Nat.le_of_ble_eq_true rfl) ?_
  refine ar_cv ok_Ho_count hk_Ho_whileUp rfl rfl (As := [.int 0]) (ad := 0) (rest := []) rfl rfl c_0 (by decide) (c_whup0  h c_0 c_9 ) (Nat.le_of_ble_eq_true rfl) (Nat.le_of_ble_eq_true rfl) (Nat.le_of_ble_eq_true rfl) (Nat.le_of_ble_eq_true rfl) (pc' := 143) rfl (fun r1 h2 q3 => ?_)
  obtain ⟨rfl, f4, l5⟩ := q3
  show am_S _ _ _ _ _ _ _ (143, [some (.ref 0), some (.int 6)], [.int 0], h2, 0, 0) _
  have c6 := (f4 0 (by decide)).trans c_0
  have c7 := (f4 9 (by decide)).trans c_9
  have c8 := (f4 10 (by decide)).trans c_10
  have c9 := (f4 16 (by decide)).trans c_16
  have c10 := (f4 20 (by decide)).trans c_20
  have fr11 : ∀ q, q ∉ ([] : List Nat) → h2[q]? = h[q]? := fun q hq => f4 q (am_sub (by decide) hq)
  have ln12 : h2.length = h.length := l5
  exact am_ret ok_Ho_count rfl (Nat.le_of_ble_eq_true rfl) (Nat.le_of_ble_eq_true rfl) ⟨(by decide +kernel), fun q hq => fr11 q (am_sub (by decide) hq)⟩
set_option maxHeartbeats 4000000 in
set_option maxRecDepth 100000 in
theorem t_count_7  (h : am_H) (c_0 : h[0]? = some (.inr (0, [.ref 1, .int 0, .ref 2, .ref 7, .ref 9, .ref 10, .ref 16, .ref 20]))) (c_9 : h[9]? = some (.inr (6, [.int 1, .int (-1), .int 0, .int 0]))) (c_10 : h[10]? = some (.inr (4, [.ref 11, .int 1, .ref 12, .int 0, .int (-1), .int 0, .long 0]))) (c_16 : h[16]? = some (.inr (11, [.ref 17, .int 0, .ref 18, .int 0, .ref 19, .int 0, .int 0]))) (c_20 : h[20]? = some (.inr (5, [.ref 10, .ref 16, .ref 21, .int 0, .int 0])))  : am_Me am_Pr none 2 40 0 0 8 [.ref 0, .int 7] h (fun r h' => r = some (.int (am_ct 7)) ∧ ∀ q, q ∉ ([0, 1, 2, 3, 4, 5, 6, 7, 8, 9, 10, 11, 12, 13, 14, 15, 16, 17, 18, 19, 20, 21] : List Nat) → h'[q]? = h[q]?) := by
  refine am_enter (d := hd_Ho_count) rfl (by decide +kernel) (Nat.le_of_ble_eq_true rfl) ?_
  show am_S _ _ _ _ _ _ _ (0, [some (.ref 0), some (.int 7)], [], h, 0, 0) _
  refine am_steps ok_Ho_count 3 (x' := (145, [some (.ref 0), some (.int 7)], [.ref 0], h, 0, 0)) rfl (Nat.le_of_ble_eq_true rfl) (Nat.le_of_ble_eq_true rfl) ?_
  refine ar_get ok_Ho_count rfl c_0 (v := .int 0) rfl (pc' := 148) rfl (Nat.le_of_ble_eq_true rfl) (Nat.le_of_ble_eq_true rfl) ?_
  exact am_ret ok_Ho_count rfl (Nat.le_of_ble_eq_true rfl) (Nat.le_of_ble_eq_true rfl) ⟨(by decide +kernel), fun _ _ => rfl⟩
set_option maxHeartbeats 4000000 in
set_option maxRecDepth 100000 in
theorem t_count_8  (h : am_H) (c_0 : h[0]? = some (.inr (0, [.ref 1, .int 0, .ref 2, .ref 7, .ref 9, .ref 10, .ref 16, .ref 20]))) (c_9 : h[9]? = some (.inr (6, [.int 1, .int (-1), .int 0, .int 0]))) (c_10 : h[10]? = some (.inr (4, [.ref 11, .int 1, .ref 12, .int 0, .int (-1), .int 0, .long 0]))) (c_16 : h[16]? = some (.inr (11, [.ref 17, .int 0, .ref 18, .int 0, .ref 19, .int 0, .int 0]))) (c_20 : h[20]? = some (.inr (5, [.ref 10, .ref 16, .ref 21, .int 0, .int 0])))  : am_Me am_Pr none 2 40 0 0 8 [.ref 0, .int 8] h (fun r h' => r = some (.int (am_ct 8)) ∧ ∀ q, q ∉ ([0, 1, 2, 3, 4, 5, 6, 7, 8, 9, 10, 11, 12, 13, 14, 15, 16, 17, 18, 19, 20, 21] : List Nat) → h'[q]? = h[q]?) := by
  refine am_enter (d := hd_Ho_count) rfl (by decide +kernel) (Nat.le_of_ble_eq_true rfl) ?_
  show am_S _ _ _ _ _ _ _ (0, [some (.ref 0), some (.int 8)], [], h, 0, 0) _
  refine am_steps ok_Ho_count 4 (x' := (151, [some (.ref 0), some (.int 8)], [.ref 0, .ref 0], h, 0, 0)) rfl (Nat.le_of_ble_eq_true rfl) (Nat.le_of_ble_eq_true rfl) ?_
  refine ar_get ok_Ho_count rfl c_0 (v := .ref 9) rfl (pc' := 154) rfl (Nat.le_of_ble_eq_true rfl) (Nat.le_of_ble_eq_true rfl) ?_
  refine ar_cv ok_Ho_count hk_Di_journalBlocks rfl rfl (As := []) (ad := 9) (rest := [.ref 0]) rfl rfl c_9 (by decide) (c_jblk  h c_9 ) (Nat.le_of_ble_eq_true rfl) (Nat.le_of_ble_eq_true rfl) (Nat.le_of_ble_eq_true rfl) (Nat.le_of_ble_eq_true rfl) (pc' := 157) rfl (fun r1 h2 q3 => ?_)
  obtain ⟨rfl, f4, l5⟩ := q3
  show am_S _ _ _ _ _ _ _ (157, [some (.ref 0), some (.int 8)], [.int 0, .ref 0], h2, 0, 0) _
  have c6 := (f4 0 (by decide)).trans c_0
  have c7 := (f4 9 (by decide)).trans c_9
  have c8 := (f4 10 (by decide)).trans c_10
  have c9 := (f4 16 (by decide)).trans c_16
  have c10 := (f4 20 (by decide)).trans c_20
  have fr11 : ∀ q, q ∉ ([] : List Nat) → h2[q]? = h[q]? := fun q hq => f4 q (am_sub (by decide) hq)
  have ln12 : h2.length = h.length := l5
  refine ar_cv ok_Ho_count hk_Ho_whileUp rfl rfl (As := [.int 0]) (ad := 0) (rest := []) rfl rfl c6 (by decide) (c_whup0  h2 c6 c7 ) (Nat.le_of_ble_eq_true rfl) (Nat.le_of_ble_eq_true rfl) (Nat.le_of_ble_eq_true rfl) (Nat.le_of_ble_eq_true rfl) (pc' := 160) rfl (fun r13 h14 q15 => ?_)
  obtain ⟨rfl, f16, l17⟩ := q15
  show am_S _ _ _ _ _ _ _ (160, [some (.ref 0), some (.int 8)], [.int 0], h14, 0, 0) _
  have c18 := (f16 0 (by decide)).trans c6
  have c19 := (f16 9 (by decide)).trans c7
  have c20 := (f16 10 (by decide)).trans c8
  have c21 := (f16 16 (by decide)).trans c9
  have c22 := (f16 20 (by decide)).trans c10
  have fr23 : ∀ q, q ∉ ([] : List Nat) → h14[q]? = h[q]? := fun q hq => (f16 q (am_sub (by decide) hq)).trans (fr11 q (am_sub (by decide) hq))
  have ln24 : h14.length = h.length := l17.trans ln12
  exact am_ret ok_Ho_count rfl (Nat.le_of_ble_eq_true rfl) (Nat.le_of_ble_eq_true rfl) ⟨(by decide +kernel), fun q hq => fr23 q (am_sub (by decide) hq)⟩
set_option maxHeartbeats 4000000 in
set_option maxRecDepth 100000 in
theorem t_count_9  (h : am_H) (c_0 : h[0]? = some (.inr (0, [.ref 1, .int 0, .ref 2, .ref 7, .ref 9, .ref 10, .ref 16, .ref 20]))) (c_9 : h[9]? = some (.inr (6, [.int 1, .int (-1), .int 0, .int 0]))) (c_10 : h[10]? = some (.inr (4, [.ref 11, .int 1, .ref 12, .int 0, .int (-1), .int 0, .long 0]))) (c_16 : h[16]? = some (.inr (11, [.ref 17, .int 0, .ref 18, .int 0, .ref 19, .int 0, .int 0]))) (c_20 : h[20]? = some (.inr (5, [.ref 10, .ref 16, .ref 21, .int 0, .int 0])))  : am_Me am_Pr none 2 40 0 0 8 [.ref 0, .int 9] h (fun r h' => r = some (.int (am_ct 9)) ∧ ∀ q, q ∉ ([0, 1, 2, 3, 4, 5, 6, 7, 8, 9, 10, 11, 12, 13, 14, 15, 16, 17, 18, 19, 20, 21] : List Nat) → h'[q]? = h[q]?) := by
  refine am_enter (d := hd_Ho_count) rfl (by decide +kernel) (Nat.le_of_ble_eq_true rfl) ?_
  show am_S _ _ _ _ _ _ _ (0, [some (.ref 0), some (.int 9)], [], h, 0, 0) _
  refine am_steps ok_Ho_count 3 (x' := (162, [some (.ref 0), some (.int 9)], [.ref 0], h, 0, 0)) rfl (Nat.le_of_ble_eq_true rfl) (Nat.le_of_ble_eq_true rfl) ?_
  refine ar_get ok_Ho_count rfl c_0 (v := .ref 9) rfl (pc' := 165) rfl (Nat.le_of_ble_eq_true rfl) (Nat.le_of_ble_eq_true rfl) ?_
  refine ar_get ok_Ho_count rfl c_9 (v := .int 0) rfl (pc' := 168) rfl (Nat.le_of_ble_eq_true rfl) (Nat.le_of_ble_eq_true rfl) ?_
  exact am_ret ok_Ho_count rfl (Nat.le_of_ble_eq_true rfl) (Nat.le_of_ble_eq_true rfl) ⟨(by decide +kernel), fun _ _ => rfl⟩
set_option maxHeartbeats 4000000 in
set_option maxRecDepth 100000 in
theorem t_count_out (x : Int32) (h : am_H) (c_0 : h[0]? = some (.inr (0, [.ref 1, .int 0, .ref 2, .ref 7, .ref 9, .ref 10, .ref 16, .ref 20]))) (c_9 : h[9]? = some (.inr (6, [.int 1, .int (-1), .int 0, .int 0]))) (c_10 : h[10]? = some (.inr (4, [.ref 11, .int 1, .ref 12, .int 0, .int (-1), .int 0, .long 0]))) (c_16 : h[16]? = some (.inr (11, [.ref 17, .int 0, .ref 18, .int 0, .ref 19, .int 0, .int 0]))) (c_20 : h[20]? = some (.inr (5, [.ref 10, .ref 16, .ref 21, .int 0, .int 0]))) (hx : x.toInt < 0 ∨ 9 < x.toInt) : am_Me am_Pr none 2 40 0 0 8 [.ref 0, .int x] h (fun r h' => r = some (.int (am_ct x)) ∧ ∀ q, q ∉ ([0, 1, 2, 3, 4, 5, 6, 7, 8, 9, 10, 11, 12, 13, 14, 15, 16, 17, 18, 19, 20, 21] : List Nat) → h'[q]? = h[q]?) := by
  refine am_enter (d := hd_Ho_count) rfl (by decide +kernel) (Nat.le_of_ble_eq_true rfl) ?_
  show am_S _ _ _ _ _ _ _ (0, [some (.ref 0), some (.int x)], [], h, 0, 0) _
  refine am_steps ok_Ho_count 1 (x' := (1, [some (.ref 0), some (.int x)], [.int x], h, 0, 0)) rfl (Nat.le_of_ble_eq_true rfl) (Nat.le_of_ble_eq_true rfl) ?_
  refine ar_tsw ok_Ho_count rfl hx (t := 169) rfl (Nat.le_of_ble_eq_true rfl) (Nat.le_of_ble_eq_true rfl) ?_
  refine am_steps ok_Ho_count 1 (x' := (170, [some (.ref 0), some (.int x)], [.int (-1)], h, 0, 0)) rfl (Nat.le_of_ble_eq_true rfl) (Nat.le_of_ble_eq_true rfl) ?_
  exact am_ret ok_Ho_count rfl (Nat.le_of_ble_eq_true rfl) (Nat.le_of_ble_eq_true rfl) ⟨by rw [am_ct_out hx], fun _ _ => rfl⟩
theorem t_count (x : Int32) (h : am_H) (c_0 : h[0]? = some (.inr (0, [.ref 1, .int 0, .ref 2, .ref 7, .ref 9, .ref 10, .ref 16, .ref 20]))) (c_9 : h[9]? = some (.inr (6, [.int 1, .int (-1), .int 0, .int 0]))) (c_10 : h[10]? = some (.inr (4, [.ref 11, .int 1, .ref 12, .int 0, .int (-1), .int 0, .long 0]))) (c_16 : h[16]? = some (.inr (11, [.ref 17, .int 0, .ref 18, .int 0, .ref 19, .int 0, .int 0]))) (c_20 : h[20]? = some (.inr (5, [.ref 10, .ref 16, .ref 21, .int 0, .int 0]))) : am_Me am_Pr none 2 40 0 0 8 [.ref 0, .int x] h (fun r h' => r = some (.int (am_ct x)) ∧ ∀ q, q ∉ ([0, 1, 2, 3, 4, 5, 6, 7, 8, 9, 10, 11, 12, 13, 14, 15, 16, 17, 18, 19, 20, 21] : List Nat) → h'[q]? = h[q]?) := by
  rcases am_sw10 x with rfl | rfl | rfl | rfl | rfl | rfl | rfl | rfl | rfl | rfl | hx
  · exact t_count_0 h c_0 c_9 c_10 c_16 c_20
  · exact t_count_1 h c_0 c_9 c_10 c_16 c_20
  · exact t_count_2 h c_0 c_9 c_10 c_16 c_20
  · exact t_count_3 h c_0 c_9 c_10 c_16 c_20
  · exact t_count_4 h c_0 c_9 c_10 c_16 c_20
  · exact t_count_5 h c_0 c_9 c_10 c_16 c_20
  · exact t_count_6 h c_0 c_9 c_10 c_16 c_20
  · exact t_count_7 h c_0 c_9 c_10 c_16 c_20
  · exact t_count_8 h c_0 c_9 c_10 c_16 c_20
  · exact t_count_9 h c_0 c_9 c_10 c_16 c_20
  · exact t_count_out x h c_0 c_9 c_10 c_16 c_20 hx
theorem am_inc {i : Int32} (h : i.toInt < 2147483647) : (i + 1).toInt = i.toInt + 1 := by
  have h0 := i.le_toInt
  have e1 : (1 : Int32).toInt = 1 := by decide
  have h1 : (-2147483648 : Int) ≤ i.toInt := h0
  rw [Int32.toInt_add, e1]
  exact Int.bmod_eq_of_le (by omega) (by omega)
def am_Qlet (h0 : am_H) : Option Value → am_H → Prop := fun r h' => ∃ (b d t lk md : Int32), (b = 0 ∨ b = 1) ∧ r = some (.int b) ∧ h'[20]? = some (.inr (5, [.ref 10, .ref 16, .ref 21, .int d, .int t])) ∧ h'[16]? = some (.inr (11, [.ref 17, .int 0, .ref 18, .int 0, .ref 19, .int 0, .int lk])) ∧ h'[21]? = some (.inr (13, [.ref 16777217, .int 0, .int md])) ∧ (∀ q, q ∉ ([16, 20, 21] : List Nat) → h'[q]? = h0[q]?) ∧ h'.length = h0.length
set_option maxHeartbeats 4000000 in
set_option maxRecDepth 100000 in
theorem l_letPass (n : Int32) (hn : n.toInt ≤ 1000) (g : Nat → Option Nat) (hg0 : g 0 = some 13) (h0 : am_H) : ∀ (fu : Nat) (i b d t lk md : Int32) (h : am_H), 0 ≤ i.toInt → (n.toInt - i.toInt).toNat < fu → (b = 0 ∨ b = 1) → h[20]? = some (.inr (5, [.ref 10, .ref 16, .ref 21, .int d, .int t])) → h[16]? = some (.inr (11, [.ref 17, .int 0, .ref 18, .int 0, .ref 19, .int 0, .int lk])) → h[21]? = some (.inr (13, [.ref 16777217, .int 0, .int md])) → h[10]? = some (.inr (4, [.ref 11, .int 1, .ref 12, .int 0, .int (-1), .int 0, .long 0])) → h[11]? = some (.inl (4, 256, .inr (.inr (.inr (.inr g))))) → h[13]? = some (.inr (9, [.int 574976, .int 1, .ref 14, .ref 15, .long 0])) → h[15]? = some (.inr (13, [.ref 16777217, .int 0, .int 0])) → (∀ q, q ∉ ([16, 20, 21] : List Nat) → h[q]? = h0[q]?) → h.length = h0.length → am_S am_Pr none 5 110 0 0 160 (4, [some (.ref 20), some (.int n), some (.int b), some (.int i)], [], h, 0, 0) (am_Qlet h0) := by
  intro fu
  induction fu with
  | zero => intro i b d t lk md h h1 h2; omega
  | succ fu ih =>
    intro i b d t lk md h hi hm hb c_20 c_16 c_21 c_10 c_11 c_13 c_15 hfr hln
    refine am_steps ok_De_letPass 3 (x' := (if (n : Int32) ≤ i then 105 else 9, [some (.ref 20), some (.int n), some (.int b), some (.int i)], [], h, 0, 0)) rfl (Nat.le_of_ble_eq_true rfl) (Nat.le_of_ble_eq_true rfl) ?_
    refine am_if (fun hc1 => ?_) (fun hc1 => ?_)
    · refine am_steps ok_De_letPass 1 (x' := (106, [some (.ref 20), some (.int n), some (.int b), some (.int i)], [.int b], h, 0, 0)) rfl (Nat.le_of_ble_eq_true rfl) (Nat.le_of_ble_eq_true rfl) ?_
      exact am_ret ok_De_letPass (by rcases hb with rfl | rfl <;> rfl) (Nat.le_of_ble_eq_true rfl) (Nat.le_of_ble_eq_true rfl) ⟨b, d, t, lk, md, hb, rfl, c_20, c_16, c_21, fun q hq => hfr q hq, hln⟩
    · refine am_steps ok_De_letPass 2 (x' := (11, [some (.ref 20), some (.int n), some (.int b), some (.int i)], [.ref 20, .ref 20], h, 0, 0)) rfl (Nat.le_of_ble_eq_true rfl) (Nat.le_of_ble_eq_true rfl) ?_
      refine ar_get ok_De_letPass rfl c_20 (v := .int t) rfl (pc' := 14) rfl (Nat.le_of_ble_eq_true rfl) (Nat.le_of_ble_eq_true rfl) ?_
      refine am_steps ok_De_letPass 2 (x' := (16, [some (.ref 20), some (.int n), some (.int b), some (.int i)], [.int (t + 1), .ref 20], h, 0, 0)) rfl (Nat.le_of_ble_eq_true rfl) (Nat.le_of_ble_eq_true rfl) ?_
      refine ar_put ok_De_letPass rfl c_20 (Nat.le_of_ble_eq_true rfl) rfl (fs' := [.ref 10, .ref 16, .ref 21, .int d, .int (t + 1)]) rfl (pc' := 19) rfl (Nat.le_of_ble_eq_true rfl) (Nat.le_of_ble_eq_true rfl) (fun h2 e3 e4 e5 => ?_)
      have c6 := (e4 16 (by decide)).trans c_16
      have c7 := (e4 21 (by decide)).trans c_21
      have c8 := (e4 10 (by decide)).trans c_10
      have c9 := (e4 11 (by decide)).trans c_11
      have c10 := (e4 13 (by decide)).trans c_13
      have c11 := (e4 15 (by decide)).trans c_15
      have fr12 : ∀ q, q ∉ ([20] : List Nat) → h2[q]? = h[q]? := fun q hq => e4 q (fun z => hq (by rw [z]; decide))
      have ln13 : h2.length = h.length := e5
      refine am_steps ok_De_letPass 1 (x' := (20, [some (.ref 20), some (.int n), some (.int b), some (.int i)], [.ref 20], h2, 0, 0)) rfl (Nat.le_of_ble_eq_true rfl) (Nat.le_of_ble_eq_true rfl) ?_
      refine ar_get ok_De_letPass rfl e3 (v := .int (t + 1)) rfl (pc' := 23) rfl (Nat.le_of_ble_eq_true rfl) (Nat.le_of_ble_eq_true rfl) ?_
      refine am_steps ok_De_letPass 2 (x' := (if ((t + 1) : Int32) < 1000 then 38 else 29, [some (.ref 20), some (.int n), some (.int b), some (.int i)], [], h2, 0, 0)) rfl (Nat.le_of_ble_eq_true rfl) (Nat.le_of_ble_eq_true rfl) ?_
      refine am_if (fun hc14 => ?_) (fun hc14 => ?_)
      · refine am_steps ok_De_letPass 1 (x' := (39, [some (.ref 20), some (.int n), some (.int b), some (.int i)], [.ref 20], h2, 0, 0)) rfl (Nat.le_of_ble_eq_true rfl) (Nat.le_of_ble_eq_true rfl) ?_
        refine ar_get ok_De_letPass rfl e3 (v := .int (t + 1)) rfl (pc' := 42) rfl (Nat.le_of_ble_eq_true rfl) (Nat.le_of_ble_eq_true rfl) ?_
        refine am_steps ok_De_letPass 2 (x' := (if ((t + 1) : Int32) < 150 then 82 else 48, [some (.ref 20), some (.int n), some (.int b), some (.int i)], [], h2, 0, 0)) rfl (Nat.le_of_ble_eq_true rfl) (Nat.le_of_ble_eq_true rfl) ?_
        refine am_if (fun hc15 => ?_) (fun hc15 => ?_)
        · refine am_steps ok_De_letPass 1 (x' := (83, [some (.ref 20), some (.int n), some (.int b), some (.int i)], [.ref 20], h2, 0, 0)) rfl (Nat.le_of_ble_eq_true rfl) (Nat.le_of_ble_eq_true rfl) ?_
          refine ar_get ok_De_letPass rfl e3 (v := .int (t + 1)) rfl (pc' := 86) rfl (Nat.le_of_ble_eq_true rfl) (Nat.le_of_ble_eq_true rfl) ?_
          refine am_steps ok_De_letPass 2 (x' := (if ¬ ((t + 1) : Int32) = 900 then 99 else 92, [some (.ref 20), some (.int n), some (.int b), some (.int i)], [], h2, 0, 0)) rfl (Nat.le_of_ble_eq_true rfl) (Nat.le_of_ble_eq_true rfl) ?_
          refine am_if (fun hc16 => ?_) (fun hc16 => ?_)
          · refine am_steps ok_De_letPass 2 (x' := (4, [some (.ref 20), some (.int n), some (.int b), some (.int (i + 1))], [], h2, 0, 0)) rfl (Nat.le_of_ble_eq_true rfl) (Nat.le_of_ble_eq_true rfl) ?_
            have hlt : i.toInt < n.toInt := Int32.lt_iff_toInt_lt.mp (am_le_lt hc1)
            have hi1 := am_inc (i := i) (by omega)
            exact ih (i + 1) b d (t + 1) lk md h2 (by omega) (by omega) (hb) e3 c6 c7 c8 c9 c10 c11 (fun q hq => (fr12 q (am_sub (by decide) hq)).trans (hfr q hq)) (ln13.trans hln)
          · refine am_steps ok_De_letPass 1 (x' := (93, [some (.ref 20), some (.int n), some (.int b), some (.int i)], [.ref 20], h2, 0, 0)) rfl (Nat.le_of_ble_eq_true rfl) (Nat.le_of_ble_eq_true rfl) ?_
            refine ar_get ok_De_letPass rfl e3 (v := .ref 16) rfl (pc' := 96) rfl (Nat.le_of_ble_eq_true rfl) (Nat.le_of_ble_eq_true rfl) ?_
            refine ar_cv ok_De_letPass hk_Qu_sendAllBack rfl rfl (As := []) (ad := 16) (rest := []) rfl rfl c6 (by decide) (c_sback lk h2 c6 ) (Nat.le_of_ble_eq_true rfl) (Nat.le_of_ble_eq_true rfl) (Nat.le_of_ble_eq_true rfl) (Nat.le_of_ble_eq_true rfl) (pc' := 99) rfl (fun r17 h18 q19 => ?_)
            obtain ⟨rfl, e20, f21, l22⟩ := q19
            show am_S _ _ _ _ _ _ _ (99, [some (.ref 20), some (.int n), some (.int b), some (.int i)], [], h18, 0, 0) _
            have c23 := (f21 20 (by decide)).trans e3
            have c24 := (f21 21 (by decide)).trans c7
            have c25 := (f21 10 (by decide)).trans c8
            have c26 := (f21 11 (by decide)).trans c9
            have c27 := (f21 13 (by decide)).trans c10
            have c28 := (f21 15 (by decide)).trans c11
            have fr29 : ∀ q, q ∉ ([20, 16] : List Nat) → h18[q]? = h[q]? := fun q hq => (f21 q (am_sub (by decide) hq)).trans (fr12 q (am_sub (by decide) hq))
            have ln30 : h18.length = h.length := l22.trans ln13
            refine am_steps ok_De_letPass 2 (x' := (4, [some (.ref 20), some (.int n), some (.int b), some (.int (i + 1))], [], h18, 0, 0)) rfl (Nat.le_of_ble_eq_true rfl) (Nat.le_of_ble_eq_true rfl) ?_
            have hlt : i.toInt < n.toInt := Int32.lt_iff_toInt_lt.mp (am_le_lt hc1)
            have hi1 := am_inc (i := i) (by omega)
            exact ih (i + 1) b d (t + 1) lk md h18 (by omega) (by omega) (hb) c23 e20 c24 c25 c26 c27 c28 (fun q hq => (fr29 q (am_sub (by decide) hq)).trans (hfr q hq)) (ln30.trans hln)
        · refine am_steps ok_De_letPass 1 (x' := (49, [some (.ref 20), some (.int n), some (.int b), some (.int i)], [.ref 20], h2, 0, 0)) rfl (Nat.le_of_ble_eq_true rfl) (Nat.le_of_ble_eq_true rfl) ?_
          refine ar_get ok_De_letPass rfl e3 (v := .int (t + 1)) rfl (pc' := 52) rfl (Nat.le_of_ble_eq_true rfl) (Nat.le_of_ble_eq_true rfl) ?_
          refine am_steps ok_De_letPass 2 (x' := (if (900 : Int32) < (t + 1) then 82 else 58, [some (.ref 20), some (.int n), some (.int b), some (.int i)], [], h2, 0, 0)) rfl (Nat.le_of_ble_eq_true rfl) (Nat.le_of_ble_eq_true rfl) ?_
          refine am_if (fun hc31 => ?_) (fun hc31 => ?_)
          · refine am_steps ok_De_letPass 1 (x' := (83, [some (.ref 20), some (.int n), some (.int b), some (.int i)], [.ref 20], h2, 0, 0)) rfl (Nat.le_of_ble_eq_true rfl) (Nat.le_of_ble_eq_true rfl) ?_
            refine ar_get ok_De_letPass rfl e3 (v := .int (t + 1)) rfl (pc' := 86) rfl (Nat.le_of_ble_eq_true rfl) (Nat.le_of_ble_eq_true rfl) ?_
            refine am_steps ok_De_letPass 2 (x' := (if ¬ ((t + 1) : Int32) = 900 then 99 else 92, [some (.ref 20), some (.int n), some (.int b), some (.int i)], [], h2, 0, 0)) rfl (Nat.le_of_ble_eq_true rfl) (Nat.le_of_ble_eq_true rfl) ?_
            refine am_if (fun hc32 => ?_) (fun hc32 => ?_)
            · refine am_steps ok_De_letPass 2 (x' := (4, [some (.ref 20), some (.int n), some (.int b), some (.int (i + 1))], [], h2, 0, 0)) rfl (Nat.le_of_ble_eq_true rfl) (Nat.le_of_ble_eq_true rfl) ?_
              have hlt : i.toInt < n.toInt := Int32.lt_iff_toInt_lt.mp (am_le_lt hc1)
              have hi1 := am_inc (i := i) (by omega)
              exact ih (i + 1) b d (t + 1) lk md h2 (by omega) (by omega) (hb) e3 c6 c7 c8 c9 c10 c11 (fun q hq => (fr12 q (am_sub (by decide) hq)).trans (hfr q hq)) (ln13.trans hln)
            · refine am_steps ok_De_letPass 1 (x' := (93, [some (.ref 20), some (.int n), some (.int b), some (.int i)], [.ref 20], h2, 0, 0)) rfl (Nat.le_of_ble_eq_true rfl) (Nat.le_of_ble_eq_true rfl) ?_
              refine ar_get ok_De_letPass rfl e3 (v := .ref 16) rfl (pc' := 96) rfl (Nat.le_of_ble_eq_true rfl) (Nat.le_of_ble_eq_true rfl) ?_
              refine ar_cv ok_De_letPass hk_Qu_sendAllBack rfl rfl (As := []) (ad := 16) (rest := []) rfl rfl c6 (by decide) (c_sback lk h2 c6 ) (Nat.le_of_ble_eq_true rfl) (Nat.le_of_ble_eq_true rfl) (Nat.le_of_ble_eq_true rfl) (Nat.le_of_ble_eq_true rfl) (pc' := 99) rfl (fun r33 h34 q35 => ?_)
              obtain ⟨rfl, e36, f37, l38⟩ := q35
              show am_S _ _ _ _ _ _ _ (99, [some (.ref 20), some (.int n), some (.int b), some (.int i)], [], h34, 0, 0) _
              have c39 := (f37 20 (by decide)).trans e3
              have c40 := (f37 21 (by decide)).trans c7
              have c41 := (f37 10 (by decide)).trans c8
              have c42 := (f37 11 (by decide)).trans c9
              have c43 := (f37 13 (by decide)).trans c10
              have c44 := (f37 15 (by decide)).trans c11
              have fr45 : ∀ q, q ∉ ([20, 16] : List Nat) → h34[q]? = h[q]? := fun q hq => (f37 q (am_sub (by decide) hq)).trans (fr12 q (am_sub (by decide) hq))
              have ln46 : h34.length = h.length := l38.trans ln13
              refine am_steps ok_De_letPass 2 (x' := (4, [some (.ref 20), some (.int n), some (.int b), some (.int (i + 1))], [], h34, 0, 0)) rfl (Nat.le_of_ble_eq_true rfl) (Nat.le_of_ble_eq_true rfl) ?_
              have hlt : i.toInt < n.toInt := Int32.lt_iff_toInt_lt.mp (am_le_lt hc1)
              have hi1 := am_inc (i := i) (by omega)
              exact ih (i + 1) b d (t + 1) lk md h34 (by omega) (by omega) (hb) c39 e36 c40 c41 c42 c43 c44 (fun q hq => (fr45 q (am_sub (by decide) hq)).trans (hfr q hq)) (ln46.trans hln)
          · refine am_steps ok_De_letPass 1 (x' := (59, [some (.ref 20), some (.int n), some (.int b), some (.int i)], [.ref 20], h2, 0, 0)) rfl (Nat.le_of_ble_eq_true rfl) (Nat.le_of_ble_eq_true rfl) ?_
            refine ar_get ok_De_letPass rfl e3 (v := .int (t + 1)) rfl (pc' := 62) rfl (Nat.le_of_ble_eq_true rfl) (Nat.le_of_ble_eq_true rfl) ?_
            refine am_steps ok_De_letPass 1 (x' := (64, [some (.ref 20), some (.int n), some (.int b), some (.int i)], [.int 50, .int (t + 1)], h2, 0, 0)) rfl (Nat.le_of_ble_eq_true rfl) (Nat.le_of_ble_eq_true rfl) ?_
            refine ar_irem ok_De_letPass rfl (by decide +kernel) (w := ((t + 1) - (t + 1) / 50 * 50)) rfl (pc' := 65) rfl (Nat.le_of_ble_eq_true rfl) (Nat.le_of_ble_eq_true rfl) ?_
            refine am_steps ok_De_letPass 1 (x' := (if ¬ (((t + 1) - (t + 1) / 50 * 50) : Int32) = 0 then 82 else 68, [some (.ref 20), some (.int n), some (.int b), some (.int i)], [], h2, 0, 0)) rfl (Nat.le_of_ble_eq_true rfl) (Nat.le_of_ble_eq_true rfl) ?_
            refine am_if (fun hc47 => ?_) (fun hc47 => ?_)
            · refine am_steps ok_De_letPass 1 (x' := (83, [some (.ref 20), some (.int n), some (.int b), some (.int i)], [.ref 20], h2, 0, 0)) rfl (Nat.le_of_ble_eq_true rfl) (Nat.le_of_ble_eq_true rfl) ?_
              refine ar_get ok_De_letPass rfl e3 (v := .int (t + 1)) rfl (pc' := 86) rfl (Nat.le_of_ble_eq_true rfl) (Nat.le_of_ble_eq_true rfl) ?_
              refine am_steps ok_De_letPass 2 (x' := (if ¬ ((t + 1) : Int32) = 900 then 99 else 92, [some (.ref 20), some (.int n), some (.int b), some (.int i)], [], h2, 0, 0)) rfl (Nat.le_of_ble_eq_true rfl) (Nat.le_of_ble_eq_true rfl) ?_
              refine am_if (fun hc48 => ?_) (fun hc48 => ?_)
              · refine am_steps ok_De_letPass 2 (x' := (4, [some (.ref 20), some (.int n), some (.int b), some (.int (i + 1))], [], h2, 0, 0)) rfl (Nat.le_of_ble_eq_true rfl) (Nat.le_of_ble_eq_true rfl) ?_
                have hlt : i.toInt < n.toInt := Int32.lt_iff_toInt_lt.mp (am_le_lt hc1)
                have hi1 := am_inc (i := i) (by omega)
                exact ih (i + 1) b d (t + 1) lk md h2 (by omega) (by omega) (hb) e3 c6 c7 c8 c9 c10 c11 (fun q hq => (fr12 q (am_sub (by decide) hq)).trans (hfr q hq)) (ln13.trans hln)
              · refine am_steps ok_De_letPass 1 (x' := (93, [some (.ref 20), some (.int n), some (.int b), some (.int i)], [.ref 20], h2, 0, 0)) rfl (Nat.le_of_ble_eq_true rfl) (Nat.le_of_ble_eq_true rfl) ?_
                refine ar_get ok_De_letPass rfl e3 (v := .ref 16) rfl (pc' := 96) rfl (Nat.le_of_ble_eq_true rfl) (Nat.le_of_ble_eq_true rfl) ?_
                refine ar_cv ok_De_letPass hk_Qu_sendAllBack rfl rfl (As := []) (ad := 16) (rest := []) rfl rfl c6 (by decide) (c_sback lk h2 c6 ) (Nat.le_of_ble_eq_true rfl) (Nat.le_of_ble_eq_true rfl) (Nat.le_of_ble_eq_true rfl) (Nat.le_of_ble_eq_true rfl) (pc' := 99) rfl (fun r49 h50 q51 => ?_)
                obtain ⟨rfl, e52, f53, l54⟩ := q51
                show am_S _ _ _ _ _ _ _ (99, [some (.ref 20), some (.int n), some (.int b), some (.int i)], [], h50, 0, 0) _
                have c55 := (f53 20 (by decide)).trans e3
                have c56 := (f53 21 (by decide)).trans c7
                have c57 := (f53 10 (by decide)).trans c8
                have c58 := (f53 11 (by decide)).trans c9
                have c59 := (f53 13 (by decide)).trans c10
                have c60 := (f53 15 (by decide)).trans c11
                have fr61 : ∀ q, q ∉ ([20, 16] : List Nat) → h50[q]? = h[q]? := fun q hq => (f53 q (am_sub (by decide) hq)).trans (fr12 q (am_sub (by decide) hq))
                have ln62 : h50.length = h.length := l54.trans ln13
                refine am_steps ok_De_letPass 2 (x' := (4, [some (.ref 20), some (.int n), some (.int b), some (.int (i + 1))], [], h50, 0, 0)) rfl (Nat.le_of_ble_eq_true rfl) (Nat.le_of_ble_eq_true rfl) ?_
                have hlt : i.toInt < n.toInt := Int32.lt_iff_toInt_lt.mp (am_le_lt hc1)
                have hi1 := am_inc (i := i) (by omega)
                exact ih (i + 1) b d (t + 1) lk md h50 (by omega) (by omega) (hb) c55 e52 c56 c57 c58 c59 c60 (fun q hq => (fr61 q (am_sub (by decide) hq)).trans (hfr q hq)) (ln62.trans hln)
            · refine am_steps ok_De_letPass 1 (x' := (69, [some (.ref 20), some (.int n), some (.int b), some (.int i)], [.ref 20], h2, 0, 0)) rfl (Nat.le_of_ble_eq_true rfl) (Nat.le_of_ble_eq_true rfl) ?_
              refine ar_get ok_De_letPass rfl e3 (v := .ref 16) rfl (pc' := 72) rfl (Nat.le_of_ble_eq_true rfl) (Nat.le_of_ble_eq_true rfl) ?_
              refine ar_cv ok_De_letPass hk_Qu_resolve rfl rfl (As := []) (ad := 16) (rest := []) rfl rfl c6 (by decide) (c_resolve lk h2 c6 ) (Nat.le_of_ble_eq_true rfl) (Nat.le_of_ble_eq_true rfl) (Nat.le_of_ble_eq_true rfl) (Nat.le_of_ble_eq_true rfl) (pc' := 75) rfl (fun r63 h64 q65 => ?_)
              obtain ⟨rfl, e66, f67, l68⟩ := q65
              show am_S _ _ _ _ _ _ _ (75, [some (.ref 20), some (.int n), some (.int b), some (.int i)], [], h64, 0, 0) _
              have c69 := (f67 20 (by decide)).trans e3
              have c70 := (f67 21 (by decide)).trans c7
              have c71 := (f67 10 (by decide)).trans c8
              have c72 := (f67 11 (by decide)).trans c9
              have c73 := (f67 13 (by decide)).trans c10
              have c74 := (f67 15 (by decide)).trans c11
              have fr75 : ∀ q, q ∉ ([20, 16] : List Nat) → h64[q]? = h[q]? := fun q hq => (f67 q (am_sub (by decide) hq)).trans (fr12 q (am_sub (by decide) hq))
              have ln76 : h64.length = h.length := l68.trans ln13
              refine am_steps ok_De_letPass 1 (x' := (76, [some (.ref 20), some (.int n), some (.int b), some (.int i)], [.ref 20], h64, 0, 0)) rfl (Nat.le_of_ble_eq_true rfl) (Nat.le_of_ble_eq_true rfl) ?_
              refine ar_get ok_De_letPass rfl c69 (v := .ref 16) rfl (pc' := 79) rfl (Nat.le_of_ble_eq_true rfl) (Nat.le_of_ble_eq_true rfl) ?_
              refine ar_cv ok_De_letPass hk_Qu_settleAllThatCan rfl rfl (As := []) (ad := 16) (rest := []) rfl rfl e66 (by decide) (c_sall (((lk + 1) + 1)) h64 e66 ) (Nat.le_of_ble_eq_true rfl) (Nat.le_of_ble_eq_true rfl) (Nat.le_of_ble_eq_true rfl) (Nat.le_of_ble_eq_true rfl) (pc' := 82) rfl (fun r77 h78 q79 => ?_)
              obtain ⟨rfl, e80, f81, l82⟩ := q79
              show am_S _ _ _ _ _ _ _ (82, [some (.ref 20), some (.int n), some (.int b), some (.int i)], [], h78, 0, 0) _
              have c83 := (f81 20 (by decide)).trans c69
              have c84 := (f81 21 (by decide)).trans c70
              have c85 := (f81 10 (by decide)).trans c71
              have c86 := (f81 11 (by decide)).trans c72
              have c87 := (f81 13 (by decide)).trans c73
              have c88 := (f81 15 (by decide)).trans c74
              have fr89 : ∀ q, q ∉ ([20, 16] : List Nat) → h78[q]? = h[q]? := fun q hq => (f81 q (am_sub (by decide) hq)).trans (fr75 q (am_sub (by decide) hq))
              have ln90 : h78.length = h.length := l82.trans ln76
              refine am_steps ok_De_letPass 1 (x' := (83, [some (.ref 20), some (.int n), some (.int b), some (.int i)], [.ref 20], h78, 0, 0)) rfl (Nat.le_of_ble_eq_true rfl) (Nat.le_of_ble_eq_true rfl) ?_
              refine ar_get ok_De_letPass rfl c83 (v := .int (t + 1)) rfl (pc' := 86) rfl (Nat.le_of_ble_eq_true rfl) (Nat.le_of_ble_eq_true rfl) ?_
              refine am_steps ok_De_letPass 2 (x' := (if ¬ ((t + 1) : Int32) = 900 then 99 else 92, [some (.ref 20), some (.int n), some (.int b), some (.int i)], [], h78, 0, 0)) rfl (Nat.le_of_ble_eq_true rfl) (Nat.le_of_ble_eq_true rfl) ?_
              refine am_if (fun hc91 => ?_) (fun hc91 => ?_)
              · refine am_steps ok_De_letPass 2 (x' := (4, [some (.ref 20), some (.int n), some (.int b), some (.int (i + 1))], [], h78, 0, 0)) rfl (Nat.le_of_ble_eq_true rfl) (Nat.le_of_ble_eq_true rfl) ?_
                have hlt : i.toInt < n.toInt := Int32.lt_iff_toInt_lt.mp (am_le_lt hc1)
                have hi1 := am_inc (i := i) (by omega)
                exact ih (i + 1) b d (t + 1) (((lk + 1) + 1) + 1) md h78 (by omega) (by omega) (hb) c83 e80 c84 c85 c86 c87 c88 (fun q hq => (fr89 q (am_sub (by decide) hq)).trans (hfr q hq)) (ln90.trans hln)
              · refine am_steps ok_De_letPass 1 (x' := (93, [some (.ref 20), some (.int n), some (.int b), some (.int i)], [.ref 20], h78, 0, 0)) rfl (Nat.le_of_ble_eq_true rfl) (Nat.le_of_ble_eq_true rfl) ?_
                refine ar_get ok_De_letPass rfl c83 (v := .ref 16) rfl (pc' := 96) rfl (Nat.le_of_ble_eq_true rfl) (Nat.le_of_ble_eq_true rfl) ?_
                refine ar_cv ok_De_letPass hk_Qu_sendAllBack rfl rfl (As := []) (ad := 16) (rest := []) rfl rfl e80 (by decide) (c_sback ((((lk + 1) + 1) + 1)) h78 e80 ) (Nat.le_of_ble_eq_true rfl) (Nat.le_of_ble_eq_true rfl) (Nat.le_of_ble_eq_true rfl) (Nat.le_of_ble_eq_true rfl) (pc' := 99) rfl (fun r92 h93 q94 => ?_)
                obtain ⟨rfl, e95, f96, l97⟩ := q94
                show am_S _ _ _ _ _ _ _ (99, [some (.ref 20), some (.int n), some (.int b), some (.int i)], [], h93, 0, 0) _
                have c98 := (f96 20 (by decide)).trans c83
                have c99 := (f96 21 (by decide)).trans c84
                have c100 := (f96 10 (by decide)).trans c85
                have c101 := (f96 11 (by decide)).trans c86
                have c102 := (f96 13 (by decide)).trans c87
                have c103 := (f96 15 (by decide)).trans c88
                have fr104 : ∀ q, q ∉ ([20, 16] : List Nat) → h93[q]? = h[q]? := fun q hq => (f96 q (am_sub (by decide) hq)).trans (fr89 q (am_sub (by decide) hq))
                have ln105 : h93.length = h.length := l97.trans ln90
                refine am_steps ok_De_letPass 2 (x' := (4, [some (.ref 20), some (.int n), some (.int b), some (.int (i + 1))], [], h93, 0, 0)) rfl (Nat.le_of_ble_eq_true rfl) (Nat.le_of_ble_eq_true rfl) ?_
                have hlt : i.toInt < n.toInt := Int32.lt_iff_toInt_lt.mp (am_le_lt hc1)
                have hi1 := am_inc (i := i) (by omega)
                exact ih (i + 1) b d (t + 1) (((lk + 1) + 1) + 1) md h93 (by omega) (by omega) (hb) c98 e95 c99 c100 c101 c102 c103 (fun q hq => (fr104 q (am_sub (by decide) hq)).trans (hfr q hq)) (ln105.trans hln)
      · refine am_steps ok_De_letPass 1 (x' := (30, [some (.ref 20), some (.int n), some (.int b), some (.int i)], [.ref 20], h2, 0, 0)) rfl (Nat.le_of_ble_eq_true rfl) (Nat.le_of_ble_eq_true rfl) ?_
        refine ar_cv ok_De_letPass hk_De_beginDay rfl rfl (As := []) (ad := 20) (rest := []) rfl rfl e3 (by decide) (c_dbday d ((t + 1)) md g h2 e3 c7 c8 c9 c10 c11 hg0) (Nat.le_of_ble_eq_true rfl) (Nat.le_of_ble_eq_true rfl) (Nat.le_of_ble_eq_true rfl) (Nat.le_of_ble_eq_true rfl) (pc' := 33) rfl (fun r106 h107 q108 => ?_)
        obtain ⟨rfl, e109, e110, f111, l112⟩ := q108
        show am_S _ _ _ _ _ _ _ (33, [some (.ref 20), some (.int n), some (.int b), some (.int i)], [], h107, 0, 0) _
        have c113 := (f111 16 (by decide)).trans c6
        have c114 := (f111 10 (by decide)).trans c8
        have c115 := (f111 11 (by decide)).trans c9
        have c116 := (f111 13 (by decide)).trans c10
        have c117 := (f111 15 (by decide)).trans c11
        have fr118 : ∀ q, q ∉ ([20, 21] : List Nat) → h107[q]? = h[q]? := fun q hq => (f111 q (am_sub (by decide) hq)).trans (fr12 q (am_sub (by decide) hq))
        have ln119 : h107.length = h.length := l112.trans ln13
        refine am_steps ok_De_letPass 4 (x' := (83, [some (.ref 20), some (.int n), some (.int 1), some (.int i)], [.ref 20], h107, 0, 0)) rfl (Nat.le_of_ble_eq_true rfl) (Nat.le_of_ble_eq_true rfl) ?_
        refine ar_get ok_De_letPass rfl e109 (v := .int 0) rfl (pc' := 86) rfl (Nat.le_of_ble_eq_true rfl) (Nat.le_of_ble_eq_true rfl) ?_
        refine am_steps ok_De_letPass 4 (x' := (4, [some (.ref 20), some (.int n), some (.int 1), some (.int (i + 1))], [], h107, 0, 0)) rfl (Nat.le_of_ble_eq_true rfl) (Nat.le_of_ble_eq_true rfl) ?_
        have hlt : i.toInt < n.toInt := Int32.lt_iff_toInt_lt.mp (am_le_lt hc1)
        have hi1 := am_inc (i := i) (by omega)
        exact ih (i + 1) 1 (d + 1) 0 lk (md + 1) h107 (by omega) (by omega) (Or.inr rfl) e109 c113 e110 c114 c115 c116 c117 (fun q hq => (fr118 q (am_sub (by decide) hq)).trans (hfr q hq)) (ln119.trans hln)
set_option maxHeartbeats 4000000 in
set_option maxRecDepth 100000 in
theorem c_letPass (n : Int32) (hn : n.toInt ≤ 1000) (g : Nat → Option Nat) (hg0 : g 0 = some 13) (h : am_H) (c_20 : h[20]? = some (.inr (5, [.ref 10, .ref 16, .ref 21, .int 0, .int 0]))) (c_16 : h[16]? = some (.inr (11, [.ref 17, .int 0, .ref 18, .int 0, .ref 19, .int 0, .int 0]))) (c_21 : h[21]? = some (.inr (13, [.ref 16777217, .int 0, .int 0]))) (c_10 : h[10]? = some (.inr (4, [.ref 11, .int 1, .ref 12, .int 0, .int (-1), .int 0, .long 0]))) (c_11 : h[11]? = some (.inl (4, 256, .inr (.inr (.inr (.inr g)))))) (c_13 : h[13]? = some (.inr (9, [.int 574976, .int 1, .ref 14, .ref 15, .long 0]))) (c_15 : h[15]? = some (.inr (13, [.ref 16777217, .int 0, .int 0]))) : am_Me am_Pr none 5 110 0 0 160 [.ref 20, .int n] h (am_Qlet h) := by
  refine am_enter (d := hd_De_letPass) rfl (by decide +kernel) (Nat.le_of_ble_eq_true rfl) ?_
  refine am_steps ok_De_letPass 4 (x' := (4, [some (.ref 20), some (.int n), some (.int 0), some (.int 0)], [], h, 0, 0)) rfl (Nat.le_of_ble_eq_true rfl) (Nat.le_of_ble_eq_true rfl) ?_
  exact l_letPass n hn g hg0 h (n.toInt.toNat + 1) 0 0 0 0 0 0 h (by decide) (by rw [show (0 : Int32).toInt = 0 from by decide]; omega) (Or.inl rfl) c_20 c_16 c_21 c_10 c_11 c_13 c_15 (fun _ _ => rfl) rfl
set_option maxHeartbeats 4000000 in
set_option maxRecDepth 100000 in
theorem t_tick (n : Int32) (g : Nat → Option Nat) (h : am_H) (c_20 : h[20]? = some (.inr (5, [.ref 10, .ref 16, .ref 21, .int 0, .int 0]))) (c_16 : h[16]? = some (.inr (11, [.ref 17, .int 0, .ref 18, .int 0, .ref 19, .int 0, .int 0]))) (c_21 : h[21]? = some (.inr (13, [.ref 16777217, .int 0, .int 0]))) (c_10 : h[10]? = some (.inr (4, [.ref 11, .int 1, .ref 12, .int 0, .int (-1), .int 0, .long 0]))) (c_11 : h[11]? = some (.inl (4, 256, .inr (.inr (.inr (.inr g)))))) (c_13 : h[13]? = some (.inr (9, [.int 574976, .int 1, .ref 14, .ref 15, .long 0]))) (c_15 : h[15]? = some (.inr (13, [.ref 16777217, .int 0, .int 0]))) (c_0 : h[0]? = some (.inr (0, [.ref 1, .int 0, .ref 2, .ref 7, .ref 9, .ref 10, .ref 16, .ref 20]))) (c_9 : h[9]? = some (.inr (6, [.int 1, .int (-1), .int 0, .int 0]))) (c_7 : h[7]? = some (.inr (2, [.ref 8, .int 0, .int 0]))) (hg0 : g 0 = some 13) : am_Me am_Pr none 6 133 0 0 3 [.ref 0, .int n] h (fun r h' => r = some (.int (am_tk n)) ∧ ∀ q, q ∉ ([0, 1, 2, 3, 4, 5, 6, 7, 8, 9, 10, 11, 12, 13, 14, 15, 16, 17, 18, 19, 20, 21] : List Nat) → h'[q]? = h[q]?) := by
  refine am_enter (d := hd_Ho_tick) rfl (by decide +kernel) (Nat.le_of_ble_eq_true rfl) ?_
  show am_S _ _ _ _ _ _ _ (0, [some (.ref 0), some (.int n), none], [], h, 0, 0) _
  refine am_steps ok_Ho_tick 1 (x' := (1, [some (.ref 0), some (.int n), none], [.ref 0], h, 0, 0)) rfl (Nat.le_of_ble_eq_true rfl) (Nat.le_of_ble_eq_true rfl) ?_
  refine ar_get ok_Ho_tick rfl c_0 (v := .ref 9) rfl (pc' := 4) rfl (Nat.le_of_ble_eq_true rfl) (Nat.le_of_ble_eq_true rfl) ?_
  refine ar_get ok_Ho_tick rfl c_9 (v := .int 1) rfl (pc' := 7) rfl (Nat.le_of_ble_eq_true rfl) (Nat.le_of_ble_eq_true rfl) ?_
  refine am_steps ok_Ho_tick 4 (x' := (if (n : Int32) < 1 then 22 else 15, [some (.ref 0), some (.int n), none], [], h, 0, 0)) rfl (Nat.le_of_ble_eq_true rfl) (Nat.le_of_ble_eq_true rfl) ?_
  refine am_if (fun hc1 => ?_) (fun hc1 => ?_)
  · refine am_steps ok_Ho_tick 1 (x' := (23, [some (.ref 0), some (.int n), none], [.int 0], h, 0, 0)) rfl (Nat.le_of_ble_eq_true rfl) (Nat.le_of_ble_eq_true rfl) ?_
    exact am_ret ok_Ho_tick rfl (Nat.le_of_ble_eq_true rfl) (Nat.le_of_ble_eq_true rfl) ⟨by unfold am_tk; rw [if_pos hc1], fun _ _ => rfl⟩
  · refine am_steps ok_Ho_tick 3 (x' := (if (n : Int32) ≤ 1000 then 24 else 22, [some (.ref 0), some (.int n), none], [], h, 0, 0)) rfl (Nat.le_of_ble_eq_true rfl) (Nat.le_of_ble_eq_true rfl) ?_
    refine am_if (fun hc2 => ?_) (fun hc2 => ?_)
    · refine am_steps ok_Ho_tick 1 (x' := (25, [some (.ref 0), some (.int n), none], [.ref 0], h, 0, 0)) rfl (Nat.le_of_ble_eq_true rfl) (Nat.le_of_ble_eq_true rfl) ?_
      refine ar_get ok_Ho_tick rfl c_0 (v := .ref 7) rfl (pc' := 28) rfl (Nat.le_of_ble_eq_true rfl) (Nat.le_of_ble_eq_true rfl) ?_
      refine ar_cv ok_Ho_tick hk_An_clear rfl rfl (As := []) (ad := 7) (rest := []) rfl rfl c_7 (by decide) (c_anclear  h c_7 ) (Nat.le_of_ble_eq_true rfl) (Nat.le_of_ble_eq_true rfl) (Nat.le_of_ble_eq_true rfl) (Nat.le_of_ble_eq_true rfl) (pc' := 31) rfl (fun r3 h4 q5 => ?_)
      obtain ⟨rfl, e6, f7, l8⟩ := q5
      show am_S _ _ _ _ _ _ _ (31, [some (.ref 0), some (.int n), none], [], h4, 0, 0) _
      have c9 := (f7 20 (by decide)).trans c_20
      have c10 := (f7 16 (by decide)).trans c_16
      have c11 := (f7 21 (by decide)).trans c_21
      have c12 := (f7 10 (by decide)).trans c_10
      have c13 := (f7 11 (by decide)).trans c_11
      have c14 := (f7 13 (by decide)).trans c_13
      have c15 := (f7 15 (by decide)).trans c_15
      have c16 := (f7 0 (by decide)).trans c_0
      have c17 := (f7 9 (by decide)).trans c_9
      have fr18 : ∀ q, q ∉ ([7] : List Nat) → h4[q]? = h[q]? := fun q hq => f7 q (am_sub (by decide) hq)
      have ln19 : h4.length = h.length := l8
      refine am_steps ok_Ho_tick 1 (x' := (32, [some (.ref 0), some (.int n), none], [.ref 0], h4, 0, 0)) rfl (Nat.le_of_ble_eq_true rfl) (Nat.le_of_ble_eq_true rfl) ?_
      refine ar_get ok_Ho_tick rfl c16 (v := .ref 9) rfl (pc' := 35) rfl (Nat.le_of_ble_eq_true rfl) (Nat.le_of_ble_eq_true rfl) ?_
      refine am_steps ok_Ho_tick 1 (x' := (36, [some (.ref 0), some (.int n), none], [.int 4, .ref 9], h4, 0, 0)) rfl (Nat.le_of_ble_eq_true rfl) (Nat.le_of_ble_eq_true rfl) ?_
      refine ar_cv ok_Ho_tick hk_Di_writeRecord rfl rfl (As := [.int 4]) (ad := 9) (rest := []) rfl rfl c17 (by decide) (c_wrec 0 h4 c17 ) (Nat.le_of_ble_eq_true rfl) (Nat.le_of_ble_eq_true rfl) (Nat.le_of_ble_eq_true rfl) (Nat.le_of_ble_eq_true rfl) (pc' := 39) rfl (fun r20 h21 q22 => ?_)
      obtain ⟨rfl, e23, f24, l25⟩ := q22
      show am_S _ _ _ _ _ _ _ (39, [some (.ref 0), some (.int n), none], [.int 1], h21, 0, 0) _
      have c26 := (f24 20 (by decide)).trans c9
      have c27 := (f24 16 (by decide)).trans c10
      have c28 := (f24 21 (by decide)).trans c11
      have c29 := (f24 10 (by decide)).trans c12
      have c30 := (f24 11 (by decide)).trans c13
      have c31 := (f24 13 (by decide)).trans c14
      have c32 := (f24 15 (by decide)).trans c15
      have c33 := (f24 0 (by decide)).trans c16
      have c34 := (f24 7 (by decide)).trans e6
      have fr35 : ∀ q, q ∉ ([7, 9] : List Nat) → h21[q]? = h[q]? := fun q hq => (f24 q (am_sub (by decide) hq)).trans (fr18 q (am_sub (by decide) hq))
      have ln36 : h21.length = h.length := l25.trans ln19
      refine am_steps ok_Ho_tick 2 (x' := (45, [some (.ref 0), some (.int n), none], [.ref 0], h21, 0, 0)) rfl (Nat.le_of_ble_eq_true rfl) (Nat.le_of_ble_eq_true rfl) ?_
      refine ar_get ok_Ho_tick rfl c33 (v := .ref 20) rfl (pc' := 48) rfl (Nat.le_of_ble_eq_true rfl) (Nat.le_of_ble_eq_true rfl) ?_
      refine am_steps ok_Ho_tick 1 (x' := (49, [some (.ref 0), some (.int n), none], [.int n, .ref 20], h21, 0, 0)) rfl (Nat.le_of_ble_eq_true rfl) (Nat.le_of_ble_eq_true rfl) ?_
      refine ar_cv ok_Ho_tick hk_De_letPass rfl rfl (As := [.int n]) (ad := 20) (rest := []) rfl rfl c26 (by decide) (c_letPass n (Int32.le_iff_toInt_le.mp hc2) g hg0 h21 c26 c27 c28 c29 c30 c31 c32) (Nat.le_of_ble_eq_true rfl) (Nat.le_of_ble_eq_true rfl) (Nat.le_of_ble_eq_true rfl) (Nat.le_of_ble_eq_true rfl) (pc' := 52) rfl (fun r37 h38 q39 => ?_)
      obtain ⟨b, d, t, lk, md, hb, rfl, e40, e41, e42, f43, l44⟩ := q39
      show am_S _ _ _ _ _ _ _ (52, [some (.ref 0), some (.int n), none], [.int b], h38, 0, 0) _
      have c45 := (f43 10 (by decide)).trans c29
      have c46 := (f43 11 (by decide)).trans c30
      have c47 := (f43 13 (by decide)).trans c31
      have c48 := (f43 15 (by decide)).trans c32
      have c49 := (f43 0 (by decide)).trans c33
      have c50 := (f43 9 (by decide)).trans e23
      have c51 := (f43 7 (by decide)).trans c34
      have fr52 : ∀ q, q ∉ ([7, 9, 20, 16, 21] : List Nat) → h38[q]? = h[q]? := fun q hq => (f43 q (am_sub (by decide) hq)).trans (fr35 q (am_sub (by decide) hq))
      have ln53 : h38.length = h.length := l44.trans ln36
      refine am_steps ok_Ho_tick 3 (x' := (if (b : Int32) = 0 then 83 else 57, [some (.ref 0), some (.int n), some (.int b)], [], h38, 0, 0)) rfl (Nat.le_of_ble_eq_true rfl) (Nat.le_of_ble_eq_true rfl) ?_
      refine am_if (fun hc54 => ?_) (fun hc54 => ?_)
      · refine am_steps ok_Ho_tick 1 (x' := (84, [some (.ref 0), some (.int n), some (.int b)], [.ref 0], h38, 0, 0)) rfl (Nat.le_of_ble_eq_true rfl) (Nat.le_of_ble_eq_true rfl) ?_
        refine ar_get ok_Ho_tick rfl c49 (v := .ref 16) rfl (pc' := 87) rfl (Nat.le_of_ble_eq_true rfl) (Nat.le_of_ble_eq_true rfl) ?_
        refine am_steps ok_Ho_tick 1 (x' := (88, [some (.ref 0), some (.int n), some (.int b)], [.ref 0, .ref 16], h38, 0, 0)) rfl (Nat.le_of_ble_eq_true rfl) (Nat.le_of_ble_eq_true rfl) ?_
        refine ar_get ok_Ho_tick rfl c49 (v := .ref 7) rfl (pc' := 91) rfl (Nat.le_of_ble_eq_true rfl) (Nat.le_of_ble_eq_true rfl) ?_
        refine ar_cv ok_Ho_tick hk_Qu_tell rfl rfl (As := [.ref 7]) (ad := 16) (rest := []) rfl rfl e41 (by decide) (c_tell lk h38 e41 ) (Nat.le_of_ble_eq_true rfl) (Nat.le_of_ble_eq_true rfl) (Nat.le_of_ble_eq_true rfl) (Nat.le_of_ble_eq_true rfl) (pc' := 94) rfl (fun r55 h56 q57 => ?_)
        obtain ⟨rfl, e58, f59, l60⟩ := q57
        show am_S _ _ _ _ _ _ _ (94, [some (.ref 0), some (.int n), some (.int b)], [], h56, 0, 0) _
        have c61 := (f59 20 (by decide)).trans e40
        have c62 := (f59 21 (by decide)).trans e42
        have c63 := (f59 10 (by decide)).trans c45
        have c64 := (f59 11 (by decide)).trans c46
        have c65 := (f59 13 (by decide)).trans c47
        have c66 := (f59 15 (by decide)).trans c48
        have c67 := (f59 0 (by decide)).trans c49
        have c68 := (f59 9 (by decide)).trans c50
        have c69 := (f59 7 (by decide)).trans c51
        have fr70 : ∀ q, q ∉ ([7, 9, 20, 16, 21] : List Nat) → h56[q]? = h[q]? := fun q hq => (f59 q (am_sub (by decide) hq)).trans (fr52 q (am_sub (by decide) hq))
        have ln71 : h56.length = h.length := l60.trans ln53
        refine am_steps ok_Ho_tick 1 (x' := (95, [some (.ref 0), some (.int n), some (.int b)], [.int 1], h56, 0, 0)) rfl (Nat.le_of_ble_eq_true rfl) (Nat.le_of_ble_eq_true rfl) ?_
        exact am_ret ok_Ho_tick rfl (Nat.le_of_ble_eq_true rfl) (Nat.le_of_ble_eq_true rfl) ⟨by unfold am_tk; rw [if_neg hc1, if_pos hc2], fun q hq => fr70 q (am_sub (by decide) hq)⟩
      · refine am_steps ok_Ho_tick 1 (x' := (58, [some (.ref 0), some (.int n), some (.int b)], [.ref 0], h38, 0, 0)) rfl (Nat.le_of_ble_eq_true rfl) (Nat.le_of_ble_eq_true rfl) ?_
        refine ar_get ok_Ho_tick rfl c49 (v := .ref 9) rfl (pc' := 61) rfl (Nat.le_of_ble_eq_true rfl) (Nat.le_of_ble_eq_true rfl) ?_
        refine am_steps ok_Ho_tick 1 (x' := (62, [some (.ref 0), some (.int n), some (.int b)], [.ref 0, .ref 9], h38, 0, 0)) rfl (Nat.le_of_ble_eq_true rfl) (Nat.le_of_ble_eq_true rfl) ?_
        refine ar_get ok_Ho_tick rfl c49 (v := .ref 10) rfl (pc' := 65) rfl (Nat.le_of_ble_eq_true rfl) (Nat.le_of_ble_eq_true rfl) ?_
        refine ar_cv ok_Ho_tick hk_Bo_snapshotBytes rfl rfl (As := []) (ad := 10) (rest := [.ref 9]) rfl rfl c45 (by decide) (c_snapb  h38 c45 ) (Nat.le_of_ble_eq_true rfl) (Nat.le_of_ble_eq_true rfl) (Nat.le_of_ble_eq_true rfl) (Nat.le_of_ble_eq_true rfl) (pc' := 68) rfl (fun r72 h73 q74 => ?_)
        obtain ⟨rfl, f75, l76⟩ := q74
        show am_S _ _ _ _ _ _ _ (68, [some (.ref 0), some (.int n), some (.int b)], [.int 24, .ref 9], h73, 0, 0) _
        have c77 := (f75 20 (by decide)).trans e40
        have c78 := (f75 16 (by decide)).trans e41
        have c79 := (f75 21 (by decide)).trans e42
        have c80 := (f75 10 (by decide)).trans c45
        have c81 := (f75 11 (by decide)).trans c46
        have c82 := (f75 13 (by decide)).trans c47
        have c83 := (f75 15 (by decide)).trans c48
        have c84 := (f75 0 (by decide)).trans c49
        have c85 := (f75 9 (by decide)).trans c50
        have c86 := (f75 7 (by decide)).trans c51
        have fr87 : ∀ q, q ∉ ([7, 9, 20, 16, 21] : List Nat) → h73[q]? = h[q]? := fun q hq => (f75 q (am_sub (by decide) hq)).trans (fr52 q (am_sub (by decide) hq))
        have ln88 : h73.length = h.length := l76.trans ln53
        refine ar_cv ok_Ho_tick hk_Di_writeSnapshot rfl rfl (As := [.int 24]) (ad := 9) (rest := []) rfl rfl c85 (by decide) (c_wsnap 1 8 h73 c85 ) (Nat.le_of_ble_eq_true rfl) (Nat.le_of_ble_eq_true rfl) (Nat.le_of_ble_eq_true rfl) (Nat.le_of_ble_eq_true rfl) (pc' := 71) rfl (fun r89 h90 q91 => ?_)
        obtain ⟨rfl, e92, f93, l94⟩ := q91
        show am_S _ _ _ _ _ _ _ (71, [some (.ref 0), some (.int n), some (.int b)], [.int 1], h90, 0, 0) _
        have c95 := (f93 20 (by decide)).trans c77
        have c96 := (f93 16 (by decide)).trans c78
        have c97 := (f93 21 (by decide)).trans c79
        have c98 := (f93 10 (by decide)).trans c80
        have c99 := (f93 11 (by decide)).trans c81
        have c100 := (f93 13 (by decide)).trans c82
        have c101 := (f93 15 (by decide)).trans c83
        have c102 := (f93 0 (by decide)).trans c84
        have c103 := (f93 7 (by decide)).trans c86
        have fr104 : ∀ q, q ∉ ([7, 9, 20, 16, 21] : List Nat) → h90[q]? = h[q]? := fun q hq => (f93 q (am_sub (by decide) hq)).trans (fr87 q (am_sub (by decide) hq))
        have ln105 : h90.length = h.length := l94.trans ln88
        refine am_steps ok_Ho_tick 2 (x' := (84, [some (.ref 0), some (.int n), some (.int b)], [.ref 0], h90, 0, 0)) rfl (Nat.le_of_ble_eq_true rfl) (Nat.le_of_ble_eq_true rfl) ?_
        refine ar_get ok_Ho_tick rfl c102 (v := .ref 16) rfl (pc' := 87) rfl (Nat.le_of_ble_eq_true rfl) (Nat.le_of_ble_eq_true rfl) ?_
        refine am_steps ok_Ho_tick 1 (x' := (88, [some (.ref 0), some (.int n), some (.int b)], [.ref 0, .ref 16], h90, 0, 0)) rfl (Nat.le_of_ble_eq_true rfl) (Nat.le_of_ble_eq_true rfl) ?_
        refine ar_get ok_Ho_tick rfl c102 (v := .ref 7) rfl (pc' := 91) rfl (Nat.le_of_ble_eq_true rfl) (Nat.le_of_ble_eq_true rfl) ?_
        refine ar_cv ok_Ho_tick hk_Qu_tell rfl rfl (As := [.ref 7]) (ad := 16) (rest := []) rfl rfl c96 (by decide) (c_tell lk h90 c96 ) (Nat.le_of_ble_eq_true rfl) (Nat.le_of_ble_eq_true rfl) (Nat.le_of_ble_eq_true rfl) (Nat.le_of_ble_eq_true rfl) (pc' := 94) rfl (fun r106 h107 q108 => ?_)
        obtain ⟨rfl, e109, f110, l111⟩ := q108
        show am_S _ _ _ _ _ _ _ (94, [some (.ref 0), some (.int n), some (.int b)], [], h107, 0, 0) _
        have c112 := (f110 20 (by decide)).trans c95
        have c113 := (f110 21 (by decide)).trans c97
        have c114 := (f110 10 (by decide)).trans c98
        have c115 := (f110 11 (by decide)).trans c99
        have c116 := (f110 13 (by decide)).trans c100
        have c117 := (f110 15 (by decide)).trans c101
        have c118 := (f110 0 (by decide)).trans c102
        have c119 := (f110 9 (by decide)).trans e92
        have c120 := (f110 7 (by decide)).trans c103
        have fr121 : ∀ q, q ∉ ([7, 9, 20, 16, 21] : List Nat) → h107[q]? = h[q]? := fun q hq => (f110 q (am_sub (by decide) hq)).trans (fr104 q (am_sub (by decide) hq))
        have ln122 : h107.length = h.length := l111.trans ln105
        refine am_steps ok_Ho_tick 1 (x' := (95, [some (.ref 0), some (.int n), some (.int b)], [.int 1], h107, 0, 0)) rfl (Nat.le_of_ble_eq_true rfl) (Nat.le_of_ble_eq_true rfl) ?_
        exact am_ret ok_Ho_tick rfl (Nat.le_of_ble_eq_true rfl) (Nat.le_of_ble_eq_true rfl) ⟨by unfold am_tk; rw [if_neg hc1, if_pos hc2], fun q hq => fr121 q (am_sub (by decide) hq)⟩
    · refine am_steps ok_Ho_tick 1 (x' := (23, [some (.ref 0), some (.int n), none], [.int 0], h, 0, 0)) rfl (Nat.le_of_ble_eq_true rfl) (Nat.le_of_ble_eq_true rfl) ?_
      exact am_ret ok_Ho_tick rfl (Nat.le_of_ble_eq_true rfl) (Nat.le_of_ble_eq_true rfl) ⟨by unfold am_tk; rw [if_neg hc1, if_neg hc2], fun _ _ => rfl⟩
