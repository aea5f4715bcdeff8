/-! the law, call by call -/
set_option maxHeartbeats 4000000 in
set_option maxRecDepth 100000 in
theorem law_0 (xs : Nat → Int32) (h : am_H) (hf : am_fresh h) : am_S am_Pr (some (6, xs)) 14 550 600000 7302250 227 (33, [some (.ref 16777216), some (.ref 0), some (.ref 22), some (.int 0)], [.int 0], h, 60, 698108) (fun r _ => r = some (.int 1)) := by
  obtain ⟨c_0, c_7, c_9, c_10, c_13, c_15, c_16, c_20, c_21, c_22, ⟨f1, c_1⟩, ⟨f23, c_23⟩, ⟨mv, c_36⟩, ⟨bg, c_33⟩, ⟨wt, c_34⟩, ⟨cm, c_35⟩, ⟨pd, c_37⟩, ⟨ps, c_31, hps⟩, ⟨pl, c_32, hpl⟩, ⟨g11, c_11, hg0⟩⟩ := hf
  refine am_steps ok_La_law 27 (x' := (110, [some (.ref 16777216), some (.ref 0), some (.ref 22), some (.int 0)], [.int (xs 5), .int (xs 4), .int (xs 3), .int (xs 2), .int (xs 1), .ref 0], h, 60, 698108)) rfl (Nat.le_of_ble_eq_true rfl) (by show (698108 : Nat) ≤ 7302250; omega) ?_
  refine ar_cv ok_La_law hk_Ho_feed rfl rfl (As := [.int (xs 1), .int (xs 2), .int (xs 3), .int (xs 4), .int (xs 5)]) (ad := 0) (rest := []) rfl rfl c_0 (Nat.le_of_ble_eq_true rfl) (am_Me_none (c_feed (xs 1) (xs 2) (xs 3) (xs 4) (xs 5) f1 h c_0 c_1)) (Nat.le_of_ble_eq_true rfl) (Nat.le_of_ble_eq_true rfl) (Nat.le_of_ble_eq_true rfl) (by omega) (pc' := 113) rfl (fun r1 h2 q3 => ?_)
  obtain ⟨rfl, -, -, f4, -⟩ := q3
  show am_S _ _ _ _ _ _ _ (113, [some (.ref 16777216), some (.ref 0), some (.ref 22), some (.int 0)], [.int 1], h2, 60, 698108) _
  have c5 := (f4 22 (by decide)).trans c_22
  have c6 := (f4 23 (by decide)).trans c_23
  have c7 := (f4 36 (by decide)).trans c_36
  have c8 := (f4 33 (by decide)).trans c_33
  have c9 := (f4 34 (by decide)).trans c_34
  have c10 := (f4 35 (by decide)).trans c_35
  have c11 := (f4 37 (by decide)).trans c_37
  have c12 := (f4 31 (by decide)).trans c_31
  have c13 := (f4 32 (by decide)).trans c_32
  refine am_steps ok_La_law 26 (x' := (139, [some (.ref 16777216), some (.ref 0), some (.ref 22), some (.int 0)], [.int (xs 5), .int (xs 4), .int (xs 3), .int (xs 2), .int (xs 1), .ref 22, .int 1], h2, 60, 698108)) rfl (Nat.le_of_ble_eq_true rfl) (by show (698108 : Nat) ≤ 7302250; omega) ?_
  refine ar_cv ok_La_law hk_Mo_feed rfl rfl (As := [.int (xs 1), .int (xs 2), .int (xs 3), .int (xs 4), .int (xs 5)]) (ad := 22) (rest := [.int 1]) rfl rfl c5 (Nat.le_of_ble_eq_true rfl) (am_Me_none (u_feed (xs 1) (xs 2) (xs 3) (xs 4) (xs 5) f23 h2 c5 c6)) (Nat.le_of_ble_eq_true rfl) (Nat.le_of_ble_eq_true rfl) (Nat.le_of_ble_eq_true rfl) (by omega) (pc' := 142) rfl (fun r14 h15 q16 => ?_)
  subst q16
  show am_S _ _ _ _ _ _ _ (142, [some (.ref 16777216), some (.ref 0), some (.ref 22), some (.int 0)], [.int 1, .int 1], h15, 60, 698108) _
  refine am_steps ok_La_law 7 (x' := (23, [some (.ref 16777216), some (.ref 0), some (.ref 22), some (.int 6)], [.int 6, .int 6, .int 6], h15, 60, 698108)) rfl (Nat.le_of_ble_eq_true rfl) (by show (698108 : Nat) ≤ 7302250; omega) ?_
  refine ar_isub ok_La_law rfl (w := 0) (by decide +kernel) (pc' := 24) rfl (Nat.le_of_ble_eq_true rfl) (Nat.le_of_ble_eq_true rfl) ?_
  refine am_steps ok_La_law 2 (x' := (320, [some (.ref 16777216), some (.ref 0), some (.ref 22), some (.int 6)], [.int 1], h15, 60, 698108)) rfl (Nat.le_of_ble_eq_true rfl) (by show (698108 : Nat) ≤ 7302250; omega) ?_
  exact am_ret ok_La_law rfl (Nat.le_of_ble_eq_true rfl) (by show (698108 : Nat) ≤ 7302250; omega) rfl
set_option maxHeartbeats 4000000 in
set_option maxRecDepth 100000 in
theorem law_1 (xs : Nat → Int32) (h : am_H) (hf : am_fresh h) : am_S am_Pr (some (6, xs)) 14 550 600000 7302250 227 (33, [some (.ref 16777216), some (.ref 0), some (.ref 22), some (.int 0)], [.int 1], h, 60, 698108) (fun r _ => r = some (.int 1)) := by
  obtain ⟨c_0, c_7, c_9, c_10, c_13, c_15, c_16, c_20, c_21, c_22, ⟨f1, c_1⟩, ⟨f23, c_23⟩, ⟨mv, c_36⟩, ⟨bg, c_33⟩, ⟨wt, c_34⟩, ⟨cm, c_35⟩, ⟨pd, c_37⟩, ⟨ps, c_31, hps⟩, ⟨pl, c_32, hpl⟩, ⟨g11, c_11, hg0⟩⟩ := hf
  refine am_steps ok_La_law 7 (x' := (153, [some (.ref 16777216), some (.ref 0), some (.ref 22), some (.int 0)], [.int (xs 1), .ref 0], h, 60, 698108)) rfl (Nat.le_of_ble_eq_true rfl) (by show (698108 : Nat) ≤ 7302250; omega) ?_
  refine ar_cv ok_La_law hk_Ho_send rfl rfl (As := [.int (xs 1)]) (ad := 0) (rest := []) rfl rfl c_0 (Nat.le_of_ble_eq_true rfl) (am_Me_none (t_send (xs 1) h c_0 c_9)) (Nat.le_of_ble_eq_true rfl) (Nat.le_of_ble_eq_true rfl) (Nat.le_of_ble_eq_true rfl) (by omega) (pc' := 156) rfl (fun r1 h2 q3 => ?_)
  obtain ⟨rfl, f4⟩ := q3
  show am_S _ _ _ _ _ _ _ (156, [some (.ref 16777216), some (.ref 0), some (.ref 22), some (.int 0)], [.int 0], h2, 60, 698108) _
  have c5 := (f4 22 (by decide)).trans c_22
  have c6 := (f4 23 (by decide)).trans c_23
  have c7 := (f4 36 (by decide)).trans c_36
  have c8 := (f4 33 (by decide)).trans c_33
  have c9 := (f4 34 (by decide)).trans c_34
  have c10 := (f4 35 (by decide)).trans c_35
  have c11 := (f4 37 (by decide)).trans c_37
  have c12 := (f4 31 (by decide)).trans c_31
  have c13 := (f4 32 (by decide)).trans c_32
  refine am_steps ok_La_law 6 (x' := (162, [some (.ref 16777216), some (.ref 0), some (.ref 22), some (.int 0)], [.int (xs 1), .ref 22, .int 0], h2, 60, 698108)) rfl (Nat.le_of_ble_eq_true rfl) (by show (698108 : Nat) ≤ 7302250; omega) ?_
  refine ar_cv ok_La_law hk_Mo_send rfl rfl (As := [.int (xs 1)]) (ad := 22) (rest := [.int 0]) rfl rfl c5 (Nat.le_of_ble_eq_true rfl) (am_Me_none (u_send (xs 1) h2 c5)) (Nat.le_of_ble_eq_true rfl) (Nat.le_of_ble_eq_true rfl) (Nat.le_of_ble_eq_true rfl) (by omega) (pc' := 165) rfl (fun r14 h15 q16 => ?_)
  subst q16
  show am_S _ _ _ _ _ _ _ (165, [some (.ref 16777216), some (.ref 0), some (.ref 22), some (.int 0)], [.int 0, .int 0], h15, 60, 698108) _
  refine am_steps ok_La_law 7 (x' := (23, [some (.ref 16777216), some (.ref 0), some (.ref 22), some (.int 6)], [.int 6, .int 6, .int 6], h15, 60, 698108)) rfl (Nat.le_of_ble_eq_true rfl) (by show (698108 : Nat) ≤ 7302250; omega) ?_
  refine ar_isub ok_La_law rfl (w := 0) (by decide +kernel) (pc' := 24) rfl (Nat.le_of_ble_eq_true rfl) (Nat.le_of_ble_eq_true rfl) ?_
  refine am_steps ok_La_law 2 (x' := (320, [some (.ref 16777216), some (.ref 0), some (.ref 22), some (.int 6)], [.int 1], h15, 60, 698108)) rfl (Nat.le_of_ble_eq_true rfl) (by show (698108 : Nat) ≤ 7302250; omega) ?_
  exact am_ret ok_La_law rfl (Nat.le_of_ble_eq_true rfl) (by show (698108 : Nat) ≤ 7302250; omega) rfl
set_option maxHeartbeats 4000000 in
set_option maxRecDepth 100000 in
theorem law_2 (xs : Nat → Int32) (h : am_H) (hf : am_fresh h) : am_S am_Pr (some (6, xs)) 14 550 600000 7302250 227 (33, [some (.ref 16777216), some (.ref 0), some (.ref 22), some (.int 0)], [.int 2], h, 60, 698108) (fun r _ => r = some (.int 1)) := by
  obtain ⟨c_0, c_7, c_9, c_10, c_13, c_15, c_16, c_20, c_21, c_22, ⟨f1, c_1⟩, ⟨f23, c_23⟩, ⟨mv, c_36⟩, ⟨bg, c_33⟩, ⟨wt, c_34⟩, ⟨cm, c_35⟩, ⟨pd, c_37⟩, ⟨ps, c_31, hps⟩, ⟨pl, c_32, hpl⟩, ⟨g11, c_11, hg0⟩⟩ := hf
  refine am_steps ok_La_law 7 (x' := (176, [some (.ref 16777216), some (.ref 0), some (.ref 22), some (.int 0)], [.int (xs 1), .ref 0], h, 60, 698108)) rfl (Nat.le_of_ble_eq_true rfl) (by show (698108 : Nat) ≤ 7302250; omega) ?_
  refine ar_cv ok_La_law hk_Ho_tick rfl rfl (As := [.int (xs 1)]) (ad := 0) (rest := []) rfl rfl c_0 (Nat.le_of_ble_eq_true rfl) (am_Me_none (t_tick (xs 1) g11 h c_20 c_16 c_21 c_10 c_11 c_13 c_15 c_0 c_9 c_7 hg0)) (Nat.le_of_ble_eq_true rfl) (Nat.le_of_ble_eq_true rfl) (Nat.le_of_ble_eq_true rfl) (by omega) (pc' := 179) rfl (fun r1 h2 q3 => ?_)
  obtain ⟨rfl, f4⟩ := q3
  show am_S _ _ _ _ _ _ _ (179, [some (.ref 16777216), some (.ref 0), some (.ref 22), some (.int 0)], [.int (am_tk (xs 1))], h2, 60, 698108) _
  have c5 := (f4 22 (by decide)).trans c_22
  have c6 := (f4 23 (by decide)).trans c_23
  have c7 := (f4 36 (by decide)).trans c_36
  have c8 := (f4 33 (by decide)).trans c_33
  have c9 := (f4 34 (by decide)).trans c_34
  have c10 := (f4 35 (by decide)).trans c_35
  have c11 := (f4 37 (by decide)).trans c_37
  have c12 := (f4 31 (by decide)).trans c_31
  have c13 := (f4 32 (by decide)).trans c_32
  refine am_steps ok_La_law 6 (x' := (185, [some (.ref 16777216), some (.ref 0), some (.ref 22), some (.int 0)], [.int (xs 1), .ref 22, .int (am_tk (xs 1))], h2, 60, 698108)) rfl (Nat.le_of_ble_eq_true rfl) (by show (698108 : Nat) ≤ 7302250; omega) ?_
  refine ar_cv ok_La_law hk_Mo_tick rfl rfl (As := [.int (xs 1)]) (ad := 22) (rest := [.int (am_tk (xs 1))]) rfl rfl c5 (Nat.le_of_ble_eq_true rfl) (am_Me_none (u_tick (xs 1) pd bg wt cm mv ps pl h2 c5 c12 c13 c11 c8 c9 c10 c7 hps hpl)) (Nat.le_of_ble_eq_true rfl) (Nat.le_of_ble_eq_true rfl) (Nat.le_of_ble_eq_true rfl) (by omega) (pc' := 188) rfl (fun r14 h15 q16 => ?_)
  subst q16
  show am_S _ _ _ _ _ _ _ (188, [some (.ref 16777216), some (.ref 0), some (.ref 22), some (.int 0)], [.int (am_tk (xs 1)), .int (am_tk (xs 1))], h15, 60, 698108) _
  refine am_steps ok_La_law 1 (x' := (if ((am_tk (xs 1)) : Int32) = (am_tk (xs 1)) then 313 else 191, [some (.ref 16777216), some (.ref 0), some (.ref 22), some (.int 0)], [], h15, 60, 698108)) rfl (Nat.le_of_ble_eq_true rfl) (by show (698108 : Nat) ≤ 7302250; omega) ?_
  refine am_if (fun hc17 => ?_) (fun hc17 => ?_)
  · refine am_steps ok_La_law 6 (x' := (23, [some (.ref 16777216), some (.ref 0), some (.ref 22), some (.int 6)], [.int 6, .int 6, .int 6], h15, 60, 698108)) rfl (Nat.le_of_ble_eq_true rfl) (by show (698108 : Nat) ≤ 7302250; omega) ?_
    refine ar_isub ok_La_law rfl (w := 0) (by decide +kernel) (pc' := 24) rfl (Nat.le_of_ble_eq_true rfl) (Nat.le_of_ble_eq_true rfl) ?_
    refine am_steps ok_La_law 2 (x' := (320, [some (.ref 16777216), some (.ref 0), some (.ref 22), some (.int 6)], [.int 1], h15, 60, 698108)) rfl (Nat.le_of_ble_eq_true rfl) (by show (698108 : Nat) ≤ 7302250; omega) ?_
    exact am_ret ok_La_law rfl (Nat.le_of_ble_eq_true rfl) (by show (698108 : Nat) ≤ 7302250; omega) rfl
  · exact absurd rfl hc17
set_option maxHeartbeats 4000000 in
set_option maxRecDepth 100000 in
theorem law_3 (xs : Nat → Int32) (h : am_H) (hf : am_fresh h) : am_S am_Pr (some (6, xs)) 14 550 600000 7302250 227 (33, [some (.ref 16777216), some (.ref 0), some (.ref 22), some (.int 0)], [.int 3], h, 60, 698108) (fun r _ => r = some (.int 1)) := by
  obtain ⟨c_0, c_7, c_9, c_10, c_13, c_15, c_16, c_20, c_21, c_22, ⟨f1, c_1⟩, ⟨f23, c_23⟩, ⟨mv, c_36⟩, ⟨bg, c_33⟩, ⟨wt, c_34⟩, ⟨cm, c_35⟩, ⟨pd, c_37⟩, ⟨ps, c_31, hps⟩, ⟨pl, c_32, hpl⟩, ⟨g11, c_11, hg0⟩⟩ := hf
  refine am_steps ok_La_law 2 (x' := (194, [some (.ref 16777216), some (.ref 0), some (.ref 22), some (.int 0)], [.ref 0], h, 60, 698108)) rfl (Nat.le_of_ble_eq_true rfl) (by show (698108 : Nat) ≤ 7302250; omega) ?_
  refine ar_cv ok_La_law hk_Ho_fetch rfl rfl (As := []) (ad := 0) (rest := []) rfl rfl c_0 (Nat.le_of_ble_eq_true rfl) (am_Me_none (t_fetch h c_0 c_7)) (Nat.le_of_ble_eq_true rfl) (Nat.le_of_ble_eq_true rfl) (Nat.le_of_ble_eq_true rfl) (by omega) (pc' := 197) rfl (fun r1 h2 q3 => ?_)
  obtain ⟨rfl, f4⟩ := q3
  show am_S _ _ _ _ _ _ _ (197, [some (.ref 16777216), some (.ref 0), some (.ref 22), some (.int 0)], [.long 0], h2, 60, 698108) _
  have c5 := (f4 22 (by decide)).trans c_22
  have c6 := (f4 23 (by decide)).trans c_23
  have c7 := (f4 36 (by decide)).trans c_36
  have c8 := (f4 33 (by decide)).trans c_33
  have c9 := (f4 34 (by decide)).trans c_34
  have c10 := (f4 35 (by decide)).trans c_35
  have c11 := (f4 37 (by decide)).trans c_37
  have c12 := (f4 31 (by decide)).trans c_31
  have c13 := (f4 32 (by decide)).trans c_32
  refine am_steps ok_La_law 1 (x' := (198, [some (.ref 16777216), some (.ref 0), some (.ref 22), some (.int 0)], [.ref 22, .long 0], h2, 60, 698108)) rfl (Nat.le_of_ble_eq_true rfl) (by show (698108 : Nat) ≤ 7302250; omega) ?_
  refine ar_cv ok_La_law hk_Mo_fetch rfl rfl (As := []) (ad := 22) (rest := [.long 0]) rfl rfl c5 (Nat.le_of_ble_eq_true rfl) (am_Me_none (u_fetch h2 c5)) (Nat.le_of_ble_eq_true rfl) (Nat.le_of_ble_eq_true rfl) (Nat.le_of_ble_eq_true rfl) (by omega) (pc' := 201) rfl (fun r14 h15 q16 => ?_)
  subst q16
  show am_S _ _ _ _ _ _ _ (201, [some (.ref 16777216), some (.ref 0), some (.ref 22), some (.int 0)], [.long 0, .long 0], h15, 60, 698108) _
  refine am_steps ok_La_law 8 (x' := (23, [some (.ref 16777216), some (.ref 0), some (.ref 22), some (.int 6)], [.int 6, .int 6, .int 6], h15, 60, 698108)) rfl (Nat.le_of_ble_eq_true rfl) (by show (698108 : Nat) ≤ 7302250; omega) ?_
  refine ar_isub ok_La_law rfl (w := 0) (by decide +kernel) (pc' := 24) rfl (Nat.le_of_ble_eq_true rfl) (Nat.le_of_ble_eq_true rfl) ?_
  refine am_steps ok_La_law 2 (x' := (320, [some (.ref 16777216), some (.ref 0), some (.ref 22), some (.int 6)], [.int 1], h15, 60, 698108)) rfl (Nat.le_of_ble_eq_true rfl) (by show (698108 : Nat) ≤ 7302250; omega) ?_
  exact am_ret ok_La_law rfl (Nat.le_of_ble_eq_true rfl) (by show (698108 : Nat) ≤ 7302250; omega) rfl
set_option maxHeartbeats 4000000 in
set_option maxRecDepth 100000 in
theorem law_4 (xs : Nat → Int32) (h : am_H) (hf : am_fresh h) : am_S am_Pr (some (6, xs)) 14 550 600000 7302250 227 (33, [some (.ref 16777216), some (.ref 0), some (.ref 22), some (.int 0)], [.int 4], h, 60, 698108) (fun r _ => r = some (.int 1)) := by
  obtain ⟨c_0, c_7, c_9, c_10, c_13, c_15, c_16, c_20, c_21, c_22, ⟨f1, c_1⟩, ⟨f23, c_23⟩, ⟨mv, c_36⟩, ⟨bg, c_33⟩, ⟨wt, c_34⟩, ⟨cm, c_35⟩, ⟨pd, c_37⟩, ⟨ps, c_31, hps⟩, ⟨pl, c_32, hpl⟩, ⟨g11, c_11, hg0⟩⟩ := hf
  refine am_steps ok_La_law 7 (x' := (213, [some (.ref 16777216), some (.ref 0), some (.ref 22), some (.int 0)], [.int (xs 1), .ref 0], h, 60, 698108)) rfl (Nat.le_of_ble_eq_true rfl) (by show (698108 : Nat) ≤ 7302250; omega) ?_
  refine ar_cv ok_La_law hk_Ho_charge rfl rfl (As := [.int (xs 1)]) (ad := 0) (rest := []) rfl rfl c_0 (Nat.le_of_ble_eq_true rfl) (am_Me_none (t_charge (xs 1) h c_0 c_9)) (Nat.le_of_ble_eq_true rfl) (Nat.le_of_ble_eq_true rfl) (Nat.le_of_ble_eq_true rfl) (by omega) (pc' := 216) rfl (fun r1 h2 q3 => ?_)
  obtain ⟨rfl, f4⟩ := q3
  show am_S _ _ _ _ _ _ _ (216, [some (.ref 16777216), some (.ref 0), some (.ref 22), some (.int 0)], [.int (am_ch (xs 1))], h2, 60, 698108) _
  have c5 := (f4 22 (by decide)).trans c_22
  have c6 := (f4 23 (by decide)).trans c_23
  have c7 := (f4 36 (by decide)).trans c_36
  have c8 := (f4 33 (by decide)).trans c_33
  have c9 := (f4 34 (by decide)).trans c_34
  have c10 := (f4 35 (by decide)).trans c_35
  have c11 := (f4 37 (by decide)).trans c_37
  have c12 := (f4 31 (by decide)).trans c_31
  have c13 := (f4 32 (by decide)).trans c_32
  refine am_steps ok_La_law 6 (x' := (222, [some (.ref 16777216), some (.ref 0), some (.ref 22), some (.int 0)], [.int (xs 1), .ref 22, .int (am_ch (xs 1))], h2, 60, 698108)) rfl (Nat.le_of_ble_eq_true rfl) (by show (698108 : Nat) ≤ 7302250; omega) ?_
  refine ar_cv ok_La_law hk_Mo_charge rfl rfl (As := [.int (xs 1)]) (ad := 22) (rest := [.int (am_ch (xs 1))]) rfl rfl c5 (Nat.le_of_ble_eq_true rfl) (am_Me_none (u_charge (xs 1) h2 c5)) (Nat.le_of_ble_eq_true rfl) (Nat.le_of_ble_eq_true rfl) (Nat.le_of_ble_eq_true rfl) (by omega) (pc' := 225) rfl (fun r14 h15 q16 => ?_)
  subst q16
  show am_S _ _ _ _ _ _ _ (225, [some (.ref 16777216), some (.ref 0), some (.ref 22), some (.int 0)], [.int (am_ch (xs 1)), .int (am_ch (xs 1))], h15, 60, 698108) _
  refine am_steps ok_La_law 1 (x' := (if ((am_ch (xs 1)) : Int32) = (am_ch (xs 1)) then 313 else 228, [some (.ref 16777216), some (.ref 0), some (.ref 22), some (.int 0)], [], h15, 60, 698108)) rfl (Nat.le_of_ble_eq_true rfl) (by show (698108 : Nat) ≤ 7302250; omega) ?_
  refine am_if (fun hc17 => ?_) (fun hc17 => ?_)
  · refine am_steps ok_La_law 6 (x' := (23, [some (.ref 16777216), some (.ref 0), some (.ref 22), some (.int 6)], [.int 6, .int 6, .int 6], h15, 60, 698108)) rfl (Nat.le_of_ble_eq_true rfl) (by show (698108 : Nat) ≤ 7302250; omega) ?_
    refine ar_isub ok_La_law rfl (w := 0) (by decide +kernel) (pc' := 24) rfl (Nat.le_of_ble_eq_true rfl) (Nat.le_of_ble_eq_true rfl) ?_
    refine am_steps ok_La_law 2 (x' := (320, [some (.ref 16777216), some (.ref 0), some (.ref 22), some (.int 6)], [.int 1], h15, 60, 698108)) rfl (Nat.le_of_ble_eq_true rfl) (by show (698108 : Nat) ≤ 7302250; omega) ?_
    exact am_ret ok_La_law rfl (Nat.le_of_ble_eq_true rfl) (by show (698108 : Nat) ≤ 7302250; omega) rfl
  · exact absurd rfl hc17
set_option maxHeartbeats 4000000 in
set_option maxRecDepth 100000 in
theorem law_5 (xs : Nat → Int32) (h : am_H) (hf : am_fresh h) : am_S am_Pr (some (6, xs)) 14 550 600000 7302250 227 (33, [some (.ref 16777216), some (.ref 0), some (.ref 22), some (.int 0)], [.int 5], h, 60, 698108) (fun r _ => r = some (.int 1)) := by
  obtain ⟨c_0, c_7, c_9, c_10, c_13, c_15, c_16, c_20, c_21, c_22, ⟨f1, c_1⟩, ⟨f23, c_23⟩, ⟨mv, c_36⟩, ⟨bg, c_33⟩, ⟨wt, c_34⟩, ⟨cm, c_35⟩, ⟨pd, c_37⟩, ⟨ps, c_31, hps⟩, ⟨pl, c_32, hpl⟩, ⟨g11, c_11, hg0⟩⟩ := hf
  refine am_steps ok_La_law 2 (x' := (231, [some (.ref 16777216), some (.ref 0), some (.ref 22), some (.int 0)], [.ref 0], h, 60, 698108)) rfl (Nat.le_of_ble_eq_true rfl) (by show (698108 : Nat) ≤ 7302250; omega) ?_
  refine ar_cv ok_La_law hk_Ho_start rfl rfl (As := []) (ad := 0) (rest := []) rfl rfl c_0 (Nat.le_of_ble_eq_true rfl) (am_Me_none (t_start h c_0 c_9)) (Nat.le_of_ble_eq_true rfl) (Nat.le_of_ble_eq_true rfl) (Nat.le_of_ble_eq_true rfl) (by omega) (pc' := 234) rfl (fun r1 h2 q3 => ?_)
  obtain ⟨rfl, f4⟩ := q3
  show am_S _ _ _ _ _ _ _ (234, [some (.ref 16777216), some (.ref 0), some (.ref 22), some (.int 0)], [.int 0], h2, 60, 698108) _
  have c5 := (f4 22 (by decide)).trans c_22
  have c6 := (f4 23 (by decide)).trans c_23
  have c7 := (f4 36 (by decide)).trans c_36
  have c8 := (f4 33 (by decide)).trans c_33
  have c9 := (f4 34 (by decide)).trans c_34
  have c10 := (f4 35 (by decide)).trans c_35
  have c11 := (f4 37 (by decide)).trans c_37
  have c12 := (f4 31 (by decide)).trans c_31
  have c13 := (f4 32 (by decide)).trans c_32
  refine am_steps ok_La_law 1 (x' := (235, [some (.ref 16777216), some (.ref 0), some (.ref 22), some (.int 0)], [.ref 22, .int 0], h2, 60, 698108)) rfl (Nat.le_of_ble_eq_true rfl) (by show (698108 : Nat) ≤ 7302250; omega) ?_
  refine ar_cv ok_La_law hk_Mo_start rfl rfl (As := []) (ad := 22) (rest := [.int 0]) rfl rfl c5 (Nat.le_of_ble_eq_true rfl) (am_Me_none (u_start h2 c5)) (Nat.le_of_ble_eq_true rfl) (Nat.le_of_ble_eq_true rfl) (Nat.le_of_ble_eq_true rfl) (by omega) (pc' := 238) rfl (fun r14 h15 q16 => ?_)
  subst q16
  show am_S _ _ _ _ _ _ _ (238, [some (.ref 16777216), some (.ref 0), some (.ref 22), some (.int 0)], [.int 0, .int 0], h15, 60, 698108) _
  refine am_steps ok_La_law 7 (x' := (23, [some (.ref 16777216), some (.ref 0), some (.ref 22), some (.int 6)], [.int 6, .int 6, .int 6], h15, 60, 698108)) rfl (Nat.le_of_ble_eq_true rfl) (by show (698108 : Nat) ≤ 7302250; omega) ?_
  refine ar_isub ok_La_law rfl (w := 0) (by decide +kernel) (pc' := 24) rfl (Nat.le_of_ble_eq_true rfl) (Nat.le_of_ble_eq_true rfl) ?_
  refine am_steps ok_La_law 2 (x' := (320, [some (.ref 16777216), some (.ref 0), some (.ref 22), some (.int 6)], [.int 1], h15, 60, 698108)) rfl (Nat.le_of_ble_eq_true rfl) (by show (698108 : Nat) ≤ 7302250; omega) ?_
  exact am_ret ok_La_law rfl (Nat.le_of_ble_eq_true rfl) (by show (698108 : Nat) ≤ 7302250; omega) rfl
set_option maxHeartbeats 4000000 in
set_option maxRecDepth 100000 in
theorem law_6 (xs : Nat → Int32) (h : am_H) (hf : am_fresh h) : am_S am_Pr (some (6, xs)) 14 550 600000 7302250 227 (33, [some (.ref 16777216), some (.ref 0), some (.ref 22), some (.int 0)], [.int 6], h, 60, 698108) (fun r _ => r = some (.int 1)) := by
  obtain ⟨c_0, c_7, c_9, c_10, c_13, c_15, c_16, c_20, c_21, c_22, ⟨f1, c_1⟩, ⟨f23, c_23⟩, ⟨mv, c_36⟩, ⟨bg, c_33⟩, ⟨wt, c_34⟩, ⟨cm, c_35⟩, ⟨pd, c_37⟩, ⟨ps, c_31, hps⟩, ⟨pl, c_32, hpl⟩, ⟨g11, c_11, hg0⟩⟩ := hf
  refine am_steps ok_La_law 12 (x' := (254, [some (.ref 16777216), some (.ref 0), some (.ref 22), some (.int 0)], [.int (xs 2), .int (xs 1), .ref 0], h, 60, 698108)) rfl (Nat.le_of_ble_eq_true rfl) (by show (698108 : Nat) ≤ 7302250; omega) ?_
  refine ar_cv ok_La_law hk_Ho_position rfl rfl (As := [.int (xs 1), .int (xs 2)]) (ad := 0) (rest := []) rfl rfl c_0 (Nat.le_of_ble_eq_true rfl) (am_Me_none (t_position (xs 1) (xs 2) h c_0 c_9 c_10)) (Nat.le_of_ble_eq_true rfl) (Nat.le_of_ble_eq_true rfl) (Nat.le_of_ble_eq_true rfl) (by omega) (pc' := 257) rfl (fun r1 h2 q3 => ?_)
  obtain ⟨rfl, f4⟩ := q3
  show am_S _ _ _ _ _ _ _ (257, [some (.ref 16777216), some (.ref 0), some (.ref 22), some (.int 0)], [.long 0], h2, 60, 698108) _
  have c5 := (f4 22 (by decide)).trans c_22
  have c6 := (f4 23 (by decide)).trans c_23
  have c7 := (f4 36 (by decide)).trans c_36
  have c8 := (f4 33 (by decide)).trans c_33
  have c9 := (f4 34 (by decide)).trans c_34
  have c10 := (f4 35 (by decide)).trans c_35
  have c11 := (f4 37 (by decide)).trans c_37
  have c12 := (f4 31 (by decide)).trans c_31
  have c13 := (f4 32 (by decide)).trans c_32
  refine am_steps ok_La_law 11 (x' := (268, [some (.ref 16777216), some (.ref 0), some (.ref 22), some (.int 0)], [.int (xs 2), .int (xs 1), .ref 22, .long 0], h2, 60, 698108)) rfl (Nat.le_of_ble_eq_true rfl) (by show (698108 : Nat) ≤ 7302250; omega) ?_
  refine ar_cv ok_La_law hk_Mo_position rfl rfl (As := [.int (xs 1), .int (xs 2)]) (ad := 22) (rest := [.long 0]) rfl rfl c5 (Nat.le_of_ble_eq_true rfl) (am_Me_none (u_position (xs 1) (xs 2) h2 c5)) (Nat.le_of_ble_eq_true rfl) (Nat.le_of_ble_eq_true rfl) (Nat.le_of_ble_eq_true rfl) (by omega) (pc' := 271) rfl (fun r14 h15 q16 => ?_)
  subst q16
  show am_S _ _ _ _ _ _ _ (271, [some (.ref 16777216), some (.ref 0), some (.ref 22), some (.int 0)], [.long 0, .long 0], h15, 60, 698108) _
  refine am_steps ok_La_law 8 (x' := (23, [some (.ref 16777216), some (.ref 0), some (.ref 22), some (.int 6)], [.int 6, .int 6, .int 6], h15, 60, 698108)) rfl (Nat.le_of_ble_eq_true rfl) (by show (698108 : Nat) ≤ 7302250; omega) ?_
  refine ar_isub ok_La_law rfl (w := 0) (by decide +kernel) (pc' := 24) rfl (Nat.le_of_ble_eq_true rfl) (Nat.le_of_ble_eq_true rfl) ?_
  refine am_steps ok_La_law 2 (x' := (320, [some (.ref 16777216), some (.ref 0), some (.ref 22), some (.int 6)], [.int 1], h15, 60, 698108)) rfl (Nat.le_of_ble_eq_true rfl) (by show (698108 : Nat) ≤ 7302250; omega) ?_
  exact am_ret ok_La_law rfl (Nat.le_of_ble_eq_true rfl) (by show (698108 : Nat) ≤ 7302250; omega) rfl
set_option maxHeartbeats 4000000 in
set_option maxRecDepth 100000 in
theorem law_7 (xs : Nat → Int32) (h : am_H) (hf : am_fresh h) : am_S am_Pr (some (6, xs)) 14 550 600000 7302250 227 (33, [some (.ref 16777216), some (.ref 0), some (.ref 22), some (.int 0)], [.int 7], h, 60, 698108) (fun r _ => r = some (.int 1)) := by
  obtain ⟨c_0, c_7, c_9, c_10, c_13, c_15, c_16, c_20, c_21, c_22, ⟨f1, c_1⟩, ⟨f23, c_23⟩, ⟨mv, c_36⟩, ⟨bg, c_33⟩, ⟨wt, c_34⟩, ⟨cm, c_35⟩, ⟨pd, c_37⟩, ⟨ps, c_31, hps⟩, ⟨pl, c_32, hpl⟩, ⟨g11, c_11, hg0⟩⟩ := hf
  refine am_steps ok_La_law 7 (x' := (283, [some (.ref 16777216), some (.ref 0), some (.ref 22), some (.int 0)], [.int (xs 1), .ref 0], h, 60, 698108)) rfl (Nat.le_of_ble_eq_true rfl) (by show (698108 : Nat) ≤ 7302250; omega) ?_
  refine ar_cv ok_La_law hk_Ho_count rfl rfl (As := [.int (xs 1)]) (ad := 0) (rest := []) rfl rfl c_0 (Nat.le_of_ble_eq_true rfl) (am_Me_none (t_count (xs 1) h c_0 c_9 c_10 c_16 c_20)) (Nat.le_of_ble_eq_true rfl) (Nat.le_of_ble_eq_true rfl) (Nat.le_of_ble_eq_true rfl) (by omega) (pc' := 286) rfl (fun r1 h2 q3 => ?_)
  obtain ⟨rfl, f4⟩ := q3
  show am_S _ _ _ _ _ _ _ (286, [some (.ref 16777216), some (.ref 0), some (.ref 22), some (.int 0)], [.int (am_ct (xs 1))], h2, 60, 698108) _
  have c5 := (f4 22 (by decide)).trans c_22
  have c6 := (f4 23 (by decide)).trans c_23
  have c7 := (f4 36 (by decide)).trans c_36
  have c8 := (f4 33 (by decide)).trans c_33
  have c9 := (f4 34 (by decide)).trans c_34
  have c10 := (f4 35 (by decide)).trans c_35
  have c11 := (f4 37 (by decide)).trans c_37
  have c12 := (f4 31 (by decide)).trans c_31
  have c13 := (f4 32 (by decide)).trans c_32
  refine am_steps ok_La_law 6 (x' := (292, [some (.ref 16777216), some (.ref 0), some (.ref 22), some (.int 0)], [.int (xs 1), .ref 22, .int (am_ct (xs 1))], h2, 60, 698108)) rfl (Nat.le_of_ble_eq_true rfl) (by show (698108 : Nat) ≤ 7302250; omega) ?_
  refine ar_cv ok_La_law hk_Mo_count rfl rfl (As := [.int (xs 1)]) (ad := 22) (rest := [.int (am_ct (xs 1))]) rfl rfl c5 (Nat.le_of_ble_eq_true rfl) (am_Me_none (u_count (xs 1) h2 c5)) (Nat.le_of_ble_eq_true rfl) (Nat.le_of_ble_eq_true rfl) (Nat.le_of_ble_eq_true rfl) (by omega) (pc' := 295) rfl (fun r14 h15 q16 => ?_)
  subst q16
  show am_S _ _ _ _ _ _ _ (295, [some (.ref 16777216), some (.ref 0), some (.ref 22), some (.int 0)], [.int (am_ct (xs 1)), .int (am_ct (xs 1))], h15, 60, 698108) _
  refine am_steps ok_La_law 1 (x' := (if ((am_ct (xs 1)) : Int32) = (am_ct (xs 1)) then 313 else 298, [some (.ref 16777216), some (.ref 0), some (.ref 22), some (.int 0)], [], h15, 60, 698108)) rfl (Nat.le_of_ble_eq_true rfl) (by show (698108 : Nat) ≤ 7302250; omega) ?_
  refine am_if (fun hc17 => ?_) (fun hc17 => ?_)
  · refine am_steps ok_La_law 6 (x' := (23, [some (.ref 16777216), some (.ref 0), some (.ref 22), some (.int 6)], [.int 6, .int 6, .int 6], h15, 60, 698108)) rfl (Nat.le_of_ble_eq_true rfl) (by show (698108 : Nat) ≤ 7302250; omega) ?_
    refine ar_isub ok_La_law rfl (w := 0) (by decide +kernel) (pc' := 24) rfl (Nat.le_of_ble_eq_true rfl) (Nat.le_of_ble_eq_true rfl) ?_
    refine am_steps ok_La_law 2 (x' := (320, [some (.ref 16777216), some (.ref 0), some (.ref 22), some (.int 6)], [.int 1], h15, 60, 698108)) rfl (Nat.le_of_ble_eq_true rfl) (by show (698108 : Nat) ≤ 7302250; omega) ?_
    exact am_ret ok_La_law rfl (Nat.le_of_ble_eq_true rfl) (by show (698108 : Nat) ≤ 7302250; omega) rfl
  · exact absurd rfl hc17
set_option maxHeartbeats 4000000 in
set_option maxRecDepth 100000 in
theorem law_8 (xs : Nat → Int32) (h : am_H) (hf : am_fresh h) : am_S am_Pr (some (6, xs)) 14 550 600000 7302250 227 (33, [some (.ref 16777216), some (.ref 0), some (.ref 22), some (.int 0)], [.int 8], h, 60, 698108) (fun r _ => r = some (.int 1)) := by
  obtain ⟨c_0, c_7, c_9, c_10, c_13, c_15, c_16, c_20, c_21, c_22, ⟨f1, c_1⟩, ⟨f23, c_23⟩, ⟨mv, c_36⟩, ⟨bg, c_33⟩, ⟨wt, c_34⟩, ⟨cm, c_35⟩, ⟨pd, c_37⟩, ⟨ps, c_31, hps⟩, ⟨pl, c_32, hpl⟩, ⟨g11, c_11, hg0⟩⟩ := hf
  refine am_steps ok_La_law 2 (x' := (301, [some (.ref 16777216), some (.ref 0), some (.ref 22), some (.int 0)], [.ref 0], h, 60, 698108)) rfl (Nat.le_of_ble_eq_true rfl) (by show (698108 : Nat) ≤ 7302250; omega) ?_
  refine ar_cv ok_La_law hk_Ho_broken rfl rfl (As := []) (ad := 0) (rest := []) rfl rfl c_0 (Nat.le_of_ble_eq_true rfl) (am_Me_none (t_broken h)) (Nat.le_of_ble_eq_true rfl) (Nat.le_of_ble_eq_true rfl) (Nat.le_of_ble_eq_true rfl) (by omega) (pc' := 304) rfl (fun r1 h2 q3 => ?_)
  obtain ⟨rfl, f4⟩ := q3
  show am_S _ _ _ _ _ _ _ (304, [some (.ref 16777216), some (.ref 0), some (.ref 22), some (.int 0)], [.int 0], h2, 60, 698108) _
  have c5 := (f4 22 (by decide)).trans c_22
  have c6 := (f4 23 (by decide)).trans c_23
  have c7 := (f4 36 (by decide)).trans c_36
  have c8 := (f4 33 (by decide)).trans c_33
  have c9 := (f4 34 (by decide)).trans c_34
  have c10 := (f4 35 (by decide)).trans c_35
  have c11 := (f4 37 (by decide)).trans c_37
  have c12 := (f4 31 (by decide)).trans c_31
  have c13 := (f4 32 (by decide)).trans c_32
  refine am_steps ok_La_law 1 (x' := (305, [some (.ref 16777216), some (.ref 0), some (.ref 22), some (.int 0)], [.ref 22, .int 0], h2, 60, 698108)) rfl (Nat.le_of_ble_eq_true rfl) (by show (698108 : Nat) ≤ 7302250; omega) ?_
  refine ar_cv ok_La_law hk_Mo_broken rfl rfl (As := []) (ad := 22) (rest := [.int 0]) rfl rfl c5 (Nat.le_of_ble_eq_true rfl) (am_Me_none (u_broken h2 c5)) (Nat.le_of_ble_eq_true rfl) (Nat.le_of_ble_eq_true rfl) (Nat.le_of_ble_eq_true rfl) (by omega) (pc' := 308) rfl (fun r14 h15 q16 => ?_)
  subst q16
  show am_S _ _ _ _ _ _ _ (308, [some (.ref 16777216), some (.ref 0), some (.ref 22), some (.int 0)], [.int 0, .int 0], h15, 60, 698108) _
  refine am_steps ok_La_law 7 (x' := (23, [some (.ref 16777216), some (.ref 0), some (.ref 22), some (.int 6)], [.int 6, .int 6, .int 6], h15, 60, 698108)) rfl (Nat.le_of_ble_eq_true rfl) (by show (698108 : Nat) ≤ 7302250; omega) ?_
  refine ar_isub ok_La_law rfl (w := 0) (by decide +kernel) (pc' := 24) rfl (Nat.le_of_ble_eq_true rfl) (Nat.le_of_ble_eq_true rfl) ?_
  refine am_steps ok_La_law 2 (x' := (320, [some (.ref 16777216), some (.ref 0), some (.ref 22), some (.int 6)], [.int 1], h15, 60, 698108)) rfl (Nat.le_of_ble_eq_true rfl) (by show (698108 : Nat) ≤ 7302250; omega) ?_
  exact am_ret ok_La_law rfl (Nat.le_of_ble_eq_true rfl) (by show (698108 : Nat) ≤ 7302250; omega) rfl
set_option maxHeartbeats 4000000 in
set_option maxRecDepth 100000 in
theorem law_out (xs : Nat → Int32) (h : am_H) : am_S am_Pr (some (6, xs)) 14 550 600000 7302250 227 (313, [some (.ref 16777216), some (.ref 0), some (.ref 22), some (.int 0)], [], h, 60, 698108) (fun r _ => r = some (.int 1)) := by
  refine am_steps ok_La_law 6 (x' := (23, [some (.ref 16777216), some (.ref 0), some (.ref 22), some (.int 6)], [.int 6, .int 6, .int 6], h, 60, 698108)) rfl (Nat.le_of_ble_eq_true rfl) (by show (698108 : Nat) ≤ 7302250; omega) ?_
  refine ar_isub ok_La_law rfl (w := 0) (by decide +kernel) (pc' := 24) rfl (Nat.le_of_ble_eq_true rfl) (Nat.le_of_ble_eq_true rfl) ?_
  refine am_steps ok_La_law 2 (x' := (320, [some (.ref 16777216), some (.ref 0), some (.ref 22), some (.int 6)], [.int 1], h, 60, 698108)) rfl (Nat.le_of_ble_eq_true rfl) (by show (698108 : Nat) ≤ 7302250; omega) ?_
  exact am_ret ok_La_law rfl (Nat.le_of_ble_eq_true rfl) (by show (698108 : Nat) ≤ 7302250; omega) rfl
set_option maxHeartbeats 4000000 in
set_option maxRecDepth 100000 in
theorem law_head_0 (xs : Nat → Int32) (h : am_H) (hf : am_fresh h) : am_S am_Pr (some (0, xs)) 14 550 600000 7302250 227 (18, [some (.ref 16777216), some (.ref 0), some (.ref 22), some (.int 0)], [], h, 60, 698108) (fun r _ => r = some (.int 1)) := by
  refine am_steps ok_La_law 4 (x' := (23, [some (.ref 16777216), some (.ref 0), some (.ref 22), some (.int 0)], [.int 6, .int 0, .int 0], h, 60, 698108)) rfl (Nat.le_of_ble_eq_true rfl) (by show (698108 : Nat) ≤ 7302250; omega) ?_
  refine ar_isub ok_La_law rfl (w := (-6)) (by decide +kernel) (pc' := 24) rfl (Nat.le_of_ble_eq_true rfl) (Nat.le_of_ble_eq_true rfl) ?_
  refine am_steps ok_La_law 2 (x' := (320, [some (.ref 16777216), some (.ref 0), some (.ref 22), some (.int 0)], [.int 1], h, 60, 698108)) rfl (Nat.le_of_ble_eq_true rfl) (by show (698108 : Nat) ≤ 7302250; omega) ?_
  exact am_ret ok_La_law rfl (Nat.le_of_ble_eq_true rfl) (by show (698108 : Nat) ≤ 7302250; omega) rfl
set_option maxHeartbeats 4000000 in
set_option maxRecDepth 100000 in
theorem law_head_1 (xs : Nat → Int32) (h : am_H) (hf : am_fresh h) : am_S am_Pr (some (1, xs)) 14 550 600000 7302250 227 (18, [some (.ref 16777216), some (.ref 0), some (.ref 22), some (.int 0)], [], h, 60, 698108) (fun r _ => r = some (.int 1)) := by
  refine am_steps ok_La_law 4 (x' := (23, [some (.ref 16777216), some (.ref 0), some (.ref 22), some (.int 0)], [.int 6, .int 1, .int 0], h, 60, 698108)) rfl (Nat.le_of_ble_eq_true rfl) (by show (698108 : Nat) ≤ 7302250; omega) ?_
  refine ar_isub ok_La_law rfl (w := (-5)) (by decide +kernel) (pc' := 24) rfl (Nat.le_of_ble_eq_true rfl) (Nat.le_of_ble_eq_true rfl) ?_
  refine am_steps ok_La_law 2 (x' := (320, [some (.ref 16777216), some (.ref 0), some (.ref 22), some (.int 0)], [.int 1], h, 60, 698108)) rfl (Nat.le_of_ble_eq_true rfl) (by show (698108 : Nat) ≤ 7302250; omega) ?_
  exact am_ret ok_La_law rfl (Nat.le_of_ble_eq_true rfl) (by show (698108 : Nat) ≤ 7302250; omega) rfl
set_option maxHeartbeats 4000000 in
set_option maxRecDepth 100000 in
theorem law_head_2 (xs : Nat → Int32) (h : am_H) (hf : am_fresh h) : am_S am_Pr (some (2, xs)) 14 550 600000 7302250 227 (18, [some (.ref 16777216), some (.ref 0), some (.ref 22), some (.int 0)], [], h, 60, 698108) (fun r _ => r = some (.int 1)) := by
  refine am_steps ok_La_law 4 (x' := (23, [some (.ref 16777216), some (.ref 0), some (.ref 22), some (.int 0)], [.int 6, .int 2, .int 0], h, 60, 698108)) rfl (Nat.le_of_ble_eq_true rfl) (by show (698108 : Nat) ≤ 7302250; omega) ?_
  refine ar_isub ok_La_law rfl (w := (-4)) (by decide +kernel) (pc' := 24) rfl (Nat.le_of_ble_eq_true rfl) (Nat.le_of_ble_eq_true rfl) ?_
  refine am_steps ok_La_law 2 (x' := (320, [some (.ref 16777216), some (.ref 0), some (.ref 22), some (.int 0)], [.int 1], h, 60, 698108)) rfl (Nat.le_of_ble_eq_true rfl) (by show (698108 : Nat) ≤ 7302250; omega) ?_
  exact am_ret ok_La_law rfl (Nat.le_of_ble_eq_true rfl) (by show (698108 : Nat) ≤ 7302250; omega) rfl
set_option maxHeartbeats 4000000 in
set_option maxRecDepth 100000 in
theorem law_head_3 (xs : Nat → Int32) (h : am_H) (hf : am_fresh h) : am_S am_Pr (some (3, xs)) 14 550 600000 7302250 227 (18, [some (.ref 16777216), some (.ref 0), some (.ref 22), some (.int 0)], [], h, 60, 698108) (fun r _ => r = some (.int 1)) := by
  refine am_steps ok_La_law 4 (x' := (23, [some (.ref 16777216), some (.ref 0), some (.ref 22), some (.int 0)], [.int 6, .int 3, .int 0], h, 60, 698108)) rfl (Nat.le_of_ble_eq_true rfl) (by show (698108 : Nat) ≤ 7302250; omega) ?_
  refine ar_isub ok_La_law rfl (w := (-3)) (by decide +kernel) (pc' := 24) rfl (Nat.le_of_ble_eq_true rfl) (Nat.le_of_ble_eq_true rfl) ?_
  refine am_steps ok_La_law 2 (x' := (320, [some (.ref 16777216), some (.ref 0), some (.ref 22), some (.int 0)], [.int 1], h, 60, 698108)) rfl (Nat.le_of_ble_eq_true rfl) (by show (698108 : Nat) ≤ 7302250; omega) ?_
  exact am_ret ok_La_law rfl (Nat.le_of_ble_eq_true rfl) (by show (698108 : Nat) ≤ 7302250; omega) rfl
set_option maxHeartbeats 4000000 in
set_option maxRecDepth 100000 in
theorem law_head_4 (xs : Nat → Int32) (h : am_H) (hf : am_fresh h) : am_S am_Pr (some (4, xs)) 14 550 600000 7302250 227 (18, [some (.ref 16777216), some (.ref 0), some (.ref 22), some (.int 0)], [], h, 60, 698108) (fun r _ => r = some (.int 1)) := by
  refine am_steps ok_La_law 4 (x' := (23, [some (.ref 16777216), some (.ref 0), some (.ref 22), some (.int 0)], [.int 6, .int 4, .int 0], h, 60, 698108)) rfl (Nat.le_of_ble_eq_true rfl) (by show (698108 : Nat) ≤ 7302250; omega) ?_
  refine ar_isub ok_La_law rfl (w := (-2)) (by decide +kernel) (pc' := 24) rfl (Nat.le_of_ble_eq_true rfl) (Nat.le_of_ble_eq_true rfl) ?_
  refine am_steps ok_La_law 2 (x' := (320, [some (.ref 16777216), some (.ref 0), some (.ref 22), some (.int 0)], [.int 1], h, 60, 698108)) rfl (Nat.le_of_ble_eq_true rfl) (by show (698108 : Nat) ≤ 7302250; omega) ?_
  exact am_ret ok_La_law rfl (Nat.le_of_ble_eq_true rfl) (by show (698108 : Nat) ≤ 7302250; omega) rfl
set_option maxHeartbeats 4000000 in
set_option maxRecDepth 100000 in
theorem law_head_5 (xs : Nat → Int32) (h : am_H) (hf : am_fresh h) : am_S am_Pr (some (5, xs)) 14 550 600000 7302250 227 (18, [some (.ref 16777216), some (.ref 0), some (.ref 22), some (.int 0)], [], h, 60, 698108) (fun r _ => r = some (.int 1)) := by
  refine am_steps ok_La_law 4 (x' := (23, [some (.ref 16777216), some (.ref 0), some (.ref 22), some (.int 0)], [.int 6, .int 5, .int 0], h, 60, 698108)) rfl (Nat.le_of_ble_eq_true rfl) (by show (698108 : Nat) ≤ 7302250; omega) ?_
  refine ar_isub ok_La_law rfl (w := (-1)) (by decide +kernel) (pc' := 24) rfl (Nat.le_of_ble_eq_true rfl) (Nat.le_of_ble_eq_true rfl) ?_
  refine am_steps ok_La_law 2 (x' := (320, [some (.ref 16777216), some (.ref 0), some (.ref 22), some (.int 0)], [.int 1], h, 60, 698108)) rfl (Nat.le_of_ble_eq_true rfl) (by show (698108 : Nat) ≤ 7302250; omega) ?_
  exact am_ret ok_La_law rfl (Nat.le_of_ble_eq_true rfl) (by show (698108 : Nat) ≤ 7302250; omega) rfl
set_option maxHeartbeats 4000000 in
set_option maxRecDepth 100000 in
theorem law_head_6 (xs : Nat → Int32) (h : am_H) (hf : am_fresh h) : am_S am_Pr (some (6, xs)) 14 550 600000 7302250 227 (18, [some (.ref 16777216), some (.ref 0), some (.ref 22), some (.int 0)], [], h, 60, 698108) (fun r _ => r = some (.int 1)) := by
  refine am_steps ok_La_law 4 (x' := (23, [some (.ref 16777216), some (.ref 0), some (.ref 22), some (.int 0)], [.int 6, .int 6, .int 0], h, 60, 698108)) rfl (Nat.le_of_ble_eq_true rfl) (by show (698108 : Nat) ≤ 7302250; omega) ?_
  refine ar_isub ok_La_law rfl (w := 0) (by decide +kernel) (pc' := 24) rfl (Nat.le_of_ble_eq_true rfl) (Nat.le_of_ble_eq_true rfl) ?_
  refine am_steps ok_La_law 6 (x' := (33, [some (.ref 16777216), some (.ref 0), some (.ref 22), some (.int 0)], [.int ((xs 0) &&& 15)], h, 60, 698108)) rfl (Nat.le_of_ble_eq_true rfl) (by show (698108 : Nat) ≤ 7302250; omega) ?_
  rcases am_sw9 (xs 0 &&& 15) with hx | hx | hx | hx | hx | hx | hx | hx | hx | hx
  · rw [hx]; exact law_0 xs h hf
  · rw [hx]; exact law_1 xs h hf
  · rw [hx]; exact law_2 xs h hf
  · rw [hx]; exact law_3 xs h hf
  · rw [hx]; exact law_4 xs h hf
  · rw [hx]; exact law_5 xs h hf
  · rw [hx]; exact law_6 xs h hf
  · rw [hx]; exact law_7 xs h hf
  · rw [hx]; exact law_8 xs h hf
  · refine ar_tsw ok_La_law rfl hx (t := 313) rfl (Nat.le_of_ble_eq_true rfl) (Nat.le_of_ble_eq_true rfl) ?_
    exact law_out xs h
