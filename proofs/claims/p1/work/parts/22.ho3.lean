def am_ch (n : Int32) : Int32 := if n < 0 then 0 else if n ≤ 9999 then 1 else 0
def am_tk (n : Int32) : Int32 := if n < 1 then 0 else if n ≤ 1000 then 1 else 0
theorem am_no1 {n : Int32} (h1 : ¬ n < 1) (h2 : n ≤ 0) : False := by
  rw [Int32.lt_iff_toInt_lt] at h1
  rw [Int32.le_iff_toInt_le] at h2
  have e1 : (1 : Int32).toInt = 1 := by decide
  have e0 : (0 : Int32).toInt = 0 := by decide
  omega
theorem am_no2 {n : Int32} (h1 : ¬ n < 0) (h2 : n < 0) : False := h1 h2
set_option maxHeartbeats 4000000 in
set_option maxRecDepth 100000 in
theorem t_charge (n : Int32) (h : am_H) (c_0 : h[0]? = some (.inr (0, [.ref 1, .int 0, .ref 2, .ref 7, .ref 9, .ref 10, .ref 16, .ref 20]))) (c_9 : h[9]? = some (.inr (6, [.int 1, .int (-1), .int 0, .int 0])))  : am_Me am_Pr none 0 0 0 0 5 [.ref 0, .int n] h (fun r h' => r = some (.int (am_ch n)) ∧ ∀ q, q ∉ ([0, 1, 2, 3, 4, 5, 6, 7, 8, 9, 10, 11, 12, 13, 14, 15, 16, 17, 18, 19, 20, 21] : List Nat) → h'[q]? = h[q]?) := by
  refine am_enter (d := hd_Ho_charge) rfl (by decide +kernel) (Nat.le_of_ble_eq_true rfl) ?_
  show am_S _ _ _ _ _ _ _ (0, [some (.ref 0), some (.int n)], [], h, 0, 0) _
  refine am_steps ok_Ho_charge 2 (x' := (if (n : Int32) < 0 then 11 else 4, [some (.ref 0), some (.int n)], [], h, 0, 0)) rfl (Nat.le_of_ble_eq_true rfl) (Nat.le_of_ble_eq_true rfl) ?_
  refine am_if (fun hc1 => ?_) (fun hc1 => ?_)
  · refine am_steps ok_Ho_charge 1 (x' := (12, [some (.ref 0), some (.int n)], [.int 0], h, 0, 0)) rfl (Nat.le_of_ble_eq_true rfl) (Nat.le_of_ble_eq_true rfl) ?_
    exact am_ret ok_Ho_charge rfl (Nat.le_of_ble_eq_true rfl) (Nat.le_of_ble_eq_true rfl) ⟨by unfold am_ch; rw [if_pos hc1], fun _ _ => rfl⟩
  · refine am_steps ok_Ho_charge 3 (x' := (if (n : Int32) ≤ 9999 then 13 else 11, [some (.ref 0), some (.int n)], [], h, 0, 0)) rfl (Nat.le_of_ble_eq_true rfl) (Nat.le_of_ble_eq_true rfl) ?_
    refine am_if (fun hc2 => ?_) (fun hc2 => ?_)
    · refine am_steps ok_Ho_charge 1 (x' := (14, [some (.ref 0), some (.int n)], [.ref 0], h, 0, 0)) rfl (Nat.le_of_ble_eq_true rfl) (Nat.le_of_ble_eq_true rfl) ?_
      refine ar_get ok_Ho_charge rfl c_0 (v := .ref 9) rfl (pc' := 17) rfl (Nat.le_of_ble_eq_true rfl) (Nat.le_of_ble_eq_true rfl) ?_
      refine am_steps ok_Ho_charge 1 (x' := (18, [some (.ref 0), some (.int n)], [.int n, .ref 9], h, 0, 0)) rfl (Nat.le_of_ble_eq_true rfl) (Nat.le_of_ble_eq_true rfl) ?_
      refine ar_put ok_Ho_charge rfl c_9 (Nat.le_of_ble_eq_true rfl) rfl (fs' := [.int 1, .int n, .int 0, .int 0]) rfl (pc' := 21) rfl (Nat.le_of_ble_eq_true rfl) (Nat.le_of_ble_eq_true rfl) (fun h3 e4 e5 e6 => ?_)
      have c7 := (e5 0 (by decide)).trans c_0
      have fr8 : ∀ q, q ∉ ([9] : List Nat) → h3[q]? = h[q]? := fun q hq => e5 q (fun z => hq (by rw [z]; decide))
      have ln9 : h3.length = h.length := e6
      refine am_steps ok_Ho_charge 1 (x' := (22, [some (.ref 0), some (.int n)], [.int 1], h3, 0, 0)) rfl (Nat.le_of_ble_eq_true rfl) (Nat.le_of_ble_eq_true rfl) ?_
      exact am_ret ok_Ho_charge rfl (Nat.le_of_ble_eq_true rfl) (Nat.le_of_ble_eq_true rfl) ⟨by unfold am_ch; rw [if_neg hc1, if_pos hc2], fun q hq => fr8 q (am_sub (by decide) hq)⟩
    · refine am_steps ok_Ho_charge 1 (x' := (12, [some (.ref 0), some (.int n)], [.int 0], h, 0, 0)) rfl (Nat.le_of_ble_eq_true rfl) (Nat.le_of_ble_eq_true rfl) ?_
      exact am_ret ok_Ho_charge rfl (Nat.le_of_ble_eq_true rfl) (Nat.le_of_ble_eq_true rfl) ⟨by unfold am_ch; rw [if_neg hc1, if_neg hc2], fun _ _ => rfl⟩
set_option maxHeartbeats 4000000 in
set_option maxRecDepth 100000 in
theorem t_send (n : Int32) (h : am_H) (c_0 : h[0]? = some (.inr (0, [.ref 1, .int 0, .ref 2, .ref 7, .ref 9, .ref 10, .ref 16, .ref 20]))) (c_9 : h[9]? = some (.inr (6, [.int 1, .int (-1), .int 0, .int 0])))  : am_Me am_Pr none 8 179 0 0 2 [.ref 0, .int n] h (fun r h' => r = some (.int 0) ∧ ∀ q, q ∉ ([0, 1, 2, 3, 4, 5, 6, 7, 8, 9, 10, 11, 12, 13, 14, 15, 16, 17, 18, 19, 20, 21] : List Nat) → h'[q]? = h[q]?) := by
  refine am_enter (d := hd_Ho_send) rfl (by decide +kernel) (Nat.le_of_ble_eq_true rfl) ?_
  show am_S _ _ _ _ _ _ _ (0, [some (.ref 0), some (.int n), none], [], h, 0, 0) _
  refine am_steps ok_Ho_send 1 (x' := (1, [some (.ref 0), some (.int n), none], [.ref 0], h, 0, 0)) rfl (Nat.le_of_ble_eq_true rfl) (Nat.le_of_ble_eq_true rfl) ?_
  refine ar_get ok_Ho_send rfl c_0 (v := .ref 9) rfl (pc' := 4) rfl (Nat.le_of_ble_eq_true rfl) (Nat.le_of_ble_eq_true rfl) ?_
  refine ar_get ok_Ho_send rfl c_9 (v := .int 1) rfl (pc' := 7) rfl (Nat.le_of_ble_eq_true rfl) (Nat.le_of_ble_eq_true rfl) ?_
  refine am_steps ok_Ho_send 4 (x' := (if (n : Int32) < 1 then 23 else 15, [some (.ref 0), some (.int n), none], [], h, 0, 0)) rfl (Nat.le_of_ble_eq_true rfl) (Nat.le_of_ble_eq_true rfl) ?_
  refine am_if (fun hc1 => ?_) (fun hc1 => ?_)
  · refine am_steps ok_Ho_send 1 (x' := (24, [some (.ref 0), some (.int n), none], [.int 0], h, 0, 0)) rfl (Nat.le_of_ble_eq_true rfl) (Nat.le_of_ble_eq_true rfl) ?_
    exact am_ret ok_Ho_send rfl (Nat.le_of_ble_eq_true rfl) (Nat.le_of_ble_eq_true rfl) ⟨rfl, fun _ _ => rfl⟩
  · refine am_steps ok_Ho_send 2 (x' := (17, [some (.ref 0), some (.int n), none], [.ref 0, .int n], h, 0, 0)) rfl (Nat.le_of_ble_eq_true rfl) (Nat.le_of_ble_eq_true rfl) ?_
    refine ar_get ok_Ho_send rfl c_0 (v := .int 0) rfl (pc' := 20) rfl (Nat.le_of_ble_eq_true rfl) (Nat.le_of_ble_eq_true rfl) ?_
    refine am_steps ok_Ho_send 1 (x' := (if (n : Int32) ≤ 0 then 25 else 23, [some (.ref 0), some (.int n), none], [], h, 0, 0)) rfl (Nat.le_of_ble_eq_true rfl) (Nat.le_of_ble_eq_true rfl) ?_
    refine am_if (fun hc2 => ?_) (fun hc2 => ?_)
    · exact (am_no1 hc1 hc2).elim
    · refine am_steps ok_Ho_send 1 (x' := (24, [some (.ref 0), some (.int n), none], [.int 0], h, 0, 0)) rfl (Nat.le_of_ble_eq_true rfl) (Nat.le_of_ble_eq_true rfl) ?_
      exact am_ret ok_Ho_send rfl (Nat.le_of_ble_eq_true rfl) (Nat.le_of_ble_eq_true rfl) ⟨rfl, fun _ _ => rfl⟩
set_option maxHeartbeats 4000000 in
set_option maxRecDepth 100000 in
theorem t_start  (h : am_H) (c_0 : h[0]? = some (.inr (0, [.ref 1, .int 0, .ref 2, .ref 7, .ref 9, .ref 10, .ref 16, .ref 20]))) (c_9 : h[9]? = some (.inr (6, [.int 1, .int (-1), .int 0, .int 0])))  : am_Me am_Pr none 1 20 0 0 6 [.ref 0] h (fun r h' => r = some (.int 0) ∧ ∀ q, q ∉ ([0, 1, 2, 3, 4, 5, 6, 7, 8, 9, 10, 11, 12, 13, 14, 15, 16, 17, 18, 19, 20, 21] : List Nat) → h'[q]? = h[q]?) := by
  refine am_enter (d := hd_Ho_start) rfl (by decide +kernel) (Nat.le_of_ble_eq_true rfl) ?_
  show am_S _ _ _ _ _ _ _ (0, [some (.ref 0)], [], h, 0, 0) _
  refine am_steps ok_Ho_start 1 (x' := (1, [some (.ref 0)], [.ref 0], h, 0, 0)) rfl (Nat.le_of_ble_eq_true rfl) (Nat.le_of_ble_eq_true rfl) ?_
  refine ar_get ok_Ho_start rfl c_0 (v := .ref 9) rfl (pc' := 4) rfl (Nat.le_of_ble_eq_true rfl) (Nat.le_of_ble_eq_true rfl) ?_
  refine ar_get ok_Ho_start rfl c_9 (v := .int 1) rfl (pc' := 7) rfl (Nat.le_of_ble_eq_true rfl) (Nat.le_of_ble_eq_true rfl) ?_
  refine am_steps ok_Ho_start 2 (x' := (11, [some (.ref 0)], [.int 0], h, 0, 0)) rfl (Nat.le_of_ble_eq_true rfl) (Nat.le_of_ble_eq_true rfl) ?_
  exact am_ret ok_Ho_start rfl (Nat.le_of_ble_eq_true rfl) (Nat.le_of_ble_eq_true rfl) ⟨rfl, fun _ _ => rfl⟩
set_option maxHeartbeats 4000000 in
set_option maxRecDepth 100000 in
theorem t_broken  (h : am_H)   : am_Me am_Pr none 0 0 0 0 9 [.ref 0] h (fun r h' => r = some (.int 0) ∧ ∀ q, q ∉ ([0, 1, 2, 3, 4, 5, 6, 7, 8, 9, 10, 11, 12, 13, 14, 15, 16, 17, 18, 19, 20, 21] : List Nat) → h'[q]? = h[q]?) := by
  refine am_enter (d := hd_Ho_broken) rfl (by decide +kernel) (Nat.le_of_ble_eq_true rfl) ?_
  show am_S _ _ _ _ _ _ _ (0, [some (.ref 0)], [], h, 0, 0) _
  refine am_steps ok_Ho_broken 1 (x' := (1, [some (.ref 0)], [.int 0], h, 0, 0)) rfl (Nat.le_of_ble_eq_true rfl) (Nat.le_of_ble_eq_true rfl) ?_
  exact am_ret ok_Ho_broken rfl (Nat.le_of_ble_eq_true rfl) (Nat.le_of_ble_eq_true rfl) ⟨rfl, fun _ _ => rfl⟩
set_option maxHeartbeats 4000000 in
set_option maxRecDepth 100000 in
theorem t_position (x : Int32) (y : Int32) (h : am_H) (c_0 : h[0]? = some (.inr (0, [.ref 1, .int 0, .ref 2, .ref 7, .ref 9, .ref 10, .ref 16, .ref 20]))) (c_9 : h[9]? = some (.inr (6, [.int 1, .int (-1), .int 0, .int 0]))) (c_10 : h[10]? = some (.inr (4, [.ref 11, .int 1, .ref 12, .int 0, .int (-1), .int 0, .long 0])))  : am_Me am_Pr none 1 23 0 0 7 [.ref 0, .int x, .int y] h (fun r h' => r = some (.long 0) ∧ ∀ q, q ∉ ([0, 1, 2, 3, 4, 5, 6, 7, 8, 9, 10, 11, 12, 13, 14, 15, 16, 17, 18, 19, 20, 21] : List Nat) → h'[q]? = h[q]?) := by
  refine am_enter (d := hd_Ho_position) rfl (by decide +kernel) (Nat.le_of_ble_eq_true rfl) ?_
  show am_S _ _ _ _ _ _ _ (0, [some (.ref 0), some (.int x), some (.int y)], [], h, 0, 0) _
  refine am_steps ok_Ho_position 1 (x' := (1, [some (.ref 0), some (.int x), some (.int y)], [.ref 0], h, 0, 0)) rfl (Nat.le_of_ble_eq_true rfl) (Nat.le_of_ble_eq_true rfl) ?_
  refine ar_get ok_Ho_position rfl c_0 (v := .ref 9) rfl (pc' := 4) rfl (Nat.le_of_ble_eq_true rfl) (Nat.le_of_ble_eq_true rfl) ?_
  refine ar_get ok_Ho_position rfl c_9 (v := .int 1) rfl (pc' := 7) rfl (Nat.le_of_ble_eq_true rfl) (Nat.le_of_ble_eq_true rfl) ?_
  refine am_steps ok_Ho_position 3 (x' := (if (x : Int32) < 0 then 40 else 14, [some (.ref 0), some (.int x), some (.int y)], [], h, 0, 0)) rfl (Nat.le_of_ble_eq_true rfl) (Nat.le_of_ble_eq_true rfl) ?_
  refine am_if (fun hc1 => ?_) (fun hc1 => ?_)
  · refine am_steps ok_Ho_position 1 (x' := (41, [some (.ref 0), some (.int x), some (.int y)], [.long 0], h, 0, 0)) rfl (Nat.le_of_ble_eq_true rfl) (Nat.le_of_ble_eq_true rfl) ?_
    exact am_ret ok_Ho_position rfl (Nat.le_of_ble_eq_true rfl) (Nat.le_of_ble_eq_true rfl) ⟨rfl, fun _ _ => rfl⟩
  · refine am_steps ok_Ho_position 2 (x' := (16, [some (.ref 0), some (.int x), some (.int y)], [.ref 0, .int x], h, 0, 0)) rfl (Nat.le_of_ble_eq_true rfl) (Nat.le_of_ble_eq_true rfl) ?_
    refine ar_get ok_Ho_position rfl c_0 (v := .ref 10) rfl (pc' := 19) rfl (Nat.le_of_ble_eq_true rfl) (Nat.le_of_ble_eq_true rfl) ?_
    refine ar_get ok_Ho_position rfl c_10 (v := .int 1) rfl (pc' := 22) rfl (Nat.le_of_ble_eq_true rfl) (Nat.le_of_ble_eq_true rfl) ?_
    refine am_steps ok_Ho_position 1 (x' := (if (1 : Int32) ≤ x then 40 else 25, [some (.ref 0), some (.int x), some (.int y)], [], h, 0, 0)) rfl (Nat.le_of_ble_eq_true rfl) (Nat.le_of_ble_eq_true rfl) ?_
    refine am_if (fun hc2 => ?_) (fun hc2 => ?_)
    · refine am_steps ok_Ho_position 1 (x' := (41, [some (.ref 0), some (.int x), some (.int y)], [.long 0], h, 0, 0)) rfl (Nat.le_of_ble_eq_true rfl) (Nat.le_of_ble_eq_true rfl) ?_
      exact am_ret ok_Ho_position rfl (Nat.le_of_ble_eq_true rfl) (Nat.le_of_ble_eq_true rfl) ⟨rfl, fun _ _ => rfl⟩
    · refine am_steps ok_Ho_position 2 (x' := (if (y : Int32) < 0 then 40 else 29, [some (.ref 0), some (.int x), some (.int y)], [], h, 0, 0)) rfl (Nat.le_of_ble_eq_true rfl) (Nat.le_of_ble_eq_true rfl) ?_
      refine am_if (fun hc3 => ?_) (fun hc3 => ?_)
      · refine am_steps ok_Ho_position 1 (x' := (41, [some (.ref 0), some (.int x), some (.int y)], [.long 0], h, 0, 0)) rfl (Nat.le_of_ble_eq_true rfl) (Nat.le_of_ble_eq_true rfl) ?_
        exact am_ret ok_Ho_position rfl (Nat.le_of_ble_eq_true rfl) (Nat.le_of_ble_eq_true rfl) ⟨rfl, fun _ _ => rfl⟩
      · refine am_steps ok_Ho_position 2 (x' := (31, [some (.ref 0), some (.int x), some (.int y)], [.ref 0, .int y], h, 0, 0)) rfl (Nat.le_of_ble_eq_true rfl) (Nat.le_of_ble_eq_true rfl) ?_
        refine ar_get ok_Ho_position rfl c_0 (v := .ref 10) rfl (pc' := 34) rfl (Nat.le_of_ble_eq_true rfl) (Nat.le_of_ble_eq_true rfl) ?_
        refine ar_get ok_Ho_position rfl c_10 (v := .int 0) rfl (pc' := 37) rfl (Nat.le_of_ble_eq_true rfl) (Nat.le_of_ble_eq_true rfl) ?_
        refine am_steps ok_Ho_position 1 (x' := (if (y : Int32) < 0 then 42 else 40, [some (.ref 0), some (.int x), some (.int y)], [], h, 0, 0)) rfl (Nat.le_of_ble_eq_true rfl) (Nat.le_of_ble_eq_true rfl) ?_
        refine am_if (fun hc4 => ?_) (fun hc4 => ?_)
        · exact (hc3 hc4).elim
        · refine am_steps ok_Ho_position 1 (x' := (41, [some (.ref 0), some (.int x), some (.int y)], [.long 0], h, 0, 0)) rfl (Nat.le_of_ble_eq_true rfl) (Nat.le_of_ble_eq_true rfl) ?_
          exact am_ret ok_Ho_position rfl (Nat.le_of_ble_eq_true rfl) (Nat.le_of_ble_eq_true rfl) ⟨rfl, fun _ _ => rfl⟩
set_option maxHeartbeats 4000000 in
set_option maxRecDepth 100000 in
theorem t_fetch  (h : am_H) (c_0 : h[0]? = some (.inr (0, [.ref 1, .int 0, .ref 2, .ref 7, .ref 9, .ref 10, .ref 16, .ref 20]))) (c_7 : h[7]? = some (.inr (2, [.ref 8, .int 0, .int 0])))  : am_Me am_Pr none 2 45 0 0 4 [.ref 0] h (fun r h' => r = some (.long 0) ∧ ∀ q, q ∉ ([0, 1, 2, 3, 4, 5, 6, 7, 8, 9, 10, 11, 12, 13, 14, 15, 16, 17, 18, 19, 20, 21] : List Nat) → h'[q]? = h[q]?) := by
  refine am_enter (d := hd_Ho_fetch) rfl (by decide +kernel) (Nat.le_of_ble_eq_true rfl) ?_
  show am_S _ _ _ _ _ _ _ (0, [some (.ref 0)], [], h, 0, 0) _
  refine am_steps ok_Ho_fetch 1 (x' := (1, [some (.ref 0)], [.ref 0], h, 0, 0)) rfl (Nat.le_of_ble_eq_true rfl) (Nat.le_of_ble_eq_true rfl) ?_
  refine ar_get ok_Ho_fetch rfl c_0 (v := .ref 7) rfl (pc' := 4) rfl (Nat.le_of_ble_eq_true rfl) (Nat.le_of_ble_eq_true rfl) ?_
  refine ar_cv ok_Ho_fetch hk_An_takeNext rfl rfl (As := []) (ad := 7) (rest := []) rfl rfl c_7 (by decide) (c_tnext  h c_7 ) (Nat.le_of_ble_eq_true rfl) (Nat.le_of_ble_eq_true rfl) (Nat.le_of_ble_eq_true rfl) (Nat.le_of_ble_eq_true rfl) (pc' := 7) rfl (fun r1 h2 q3 => ?_)
  obtain ⟨rfl, f4, l5⟩ := q3
  show am_S _ _ _ _ _ _ _ (7, [some (.ref 0)], [.long 0], h2, 0, 0) _
  have c6 := (f4 0 (by decide)).trans c_0
  have c7 := (f4 7 (by decide)).trans c_7
  have fr8 : ∀ q, q ∉ ([] : List Nat) → h2[q]? = h[q]? := fun q hq => f4 q (am_sub (by decide) hq)
  have ln9 : h2.length = h.length := l5
  exact am_ret ok_Ho_fetch rfl (Nat.le_of_ble_eq_true rfl) (Nat.le_of_ble_eq_true rfl) ⟨rfl, fun q hq => fr8 q (am_sub (by decide) hq)⟩
