/-! the law -/
set_option maxHeartbeats 4000000 in
set_option maxRecDepth 100000 in
theorem law_from7 (L : Nat) (hL : L ≤ 6) (xs : Nat → Int32) (hh hm : am_H) (hl : hh.length = 22) (he : hh ++ [.inr (1, am_df 1)] = hm) (hM : am_Me am_Pr none 1 23 37 690408 12 [.ref 22] hm (fun r h' => r = none ∧ am_freshM h' ∧ ∀ q, q < 22 → h'[q]? = hm[q]?)) (hf : ∀ h', am_freshM h' → (∀ q, q < 22 → h'[q]? = hm[q]?) → am_fresh h') : am_S am_Pr (some (L, xs)) 14 550 600000 7302250 227 (7, [some (.ref 16777216), none, none, none], [.ref 0], hh, 22, 7638) (fun r _ => r = some (.int 1)) := by
  refine am_steps ok_La_law 1 (x' := (8, [some (.ref 16777216), some (.ref 0), none, none], [], hh, 22, 7638)) rfl (Nat.le_of_ble_eq_true rfl) (by show (7638 : Nat) ≤ 7302250; omega) ?_
  refine ar_new ok_La_law rfl (ad := 22) hl (by decide) (N := 62) rfl (pc' := 11) rfl (k' := 23) rfl (n' := 7700) rfl (Nat.le_of_ble_eq_true rfl) (by omega) ?_
  rw [he]
  refine am_steps ok_La_law 1 (x' := (12, [some (.ref 16777216), some (.ref 0), none, none], [.ref 22, .ref 22], hm, 23, 7700)) rfl (Nat.le_of_ble_eq_true rfl) (by show (7700 : Nat) ≤ 7302250; omega) ?_
  refine am_call ok_La_law hk_Mo_init rfl (args' := [.ref 22]) (rest := [.ref 22]) rfl (am_Me_none hM) (Nat.le_of_ble_eq_true rfl) (Nat.le_of_ble_eq_true rfl) (Nat.le_of_ble_eq_true rfl) (by show 7700 + 690408 ≤ 7302250; omega) (fun r2 h2 q2 => ?_)
  obtain ⟨q3, hfM, hfH⟩ := q2
  subst q3
  have hf := hf h2 hfM hfH
  show am_S _ _ _ _ _ _ _ (15, [some (.ref 16777216), some (.ref 0), none, none], [.ref 22], h2, 60, 698108) _
  refine am_steps ok_La_law 3 (x' := (18, [some (.ref 16777216), some (.ref 0), some (.ref 22), some (.int 0)], [], h2, 60, 698108)) rfl (Nat.le_of_ble_eq_true rfl) (by show (698108 : Nat) ≤ 7302250; omega) ?_
  rcases (show L = 0 ∨ L = 1 ∨ L = 2 ∨ L = 3 ∨ L = 4 ∨ L = 5 ∨ L = 6 by omega) with rfl | rfl | rfl | rfl | rfl | rfl | rfl
  · exact law_head_0 xs h2 hf
  · exact law_head_1 xs h2 hf
  · exact law_head_2 xs h2 hf
  · exact law_head_3 xs h2 hf
  · exact law_head_4 xs h2 hf
  · exact law_head_5 xs h2 hf
  · exact law_head_6 xs h2 hf
set_option maxHeartbeats 4000000 in
set_option maxRecDepth 100000 in
theorem law_S0 (L : Nat) (xs : Nat → Int32) (hh : am_H) (hM : am_Me am_Pr none 6 122 21 7630 0 [.ref 0] [.inr (0, am_df 0)] (am_is none hh)) (hS : am_S am_Pr (some (L, xs)) 14 550 600000 7302250 227 (7, [some (.ref 16777216), none, none, none], [.ref 0], hh, 22, 7638) (fun r _ => r = some (.int 1))) : am_S am_Pr (some (L, xs)) 14 550 600000 7302250 227 (0, [some (.ref 16777216), none, none, none], [], [], 0, 0) (fun r _ => r = some (.int 1)) := by
  refine ar_new ok_La_law rfl (ad := 0) rfl (by decide) (N := 8) rfl (pc' := 3) rfl (k' := 1) rfl (n' := 8) rfl (Nat.le_of_ble_eq_true rfl) (Nat.le_of_ble_eq_true rfl) ?_
  refine am_steps ok_La_law 1 (x' := (4, [some (.ref 16777216), none, none, none], [.ref 0, .ref 0], [.inr (0, am_df 0)], 1, 8)) rfl (Nat.le_of_ble_eq_true rfl) (Nat.le_of_ble_eq_true rfl) ?_
  refine am_call ok_La_law hk_Ho_init rfl (args' := [.ref 0]) (rest := [.ref 0]) rfl (am_Me_none hM) (Nat.le_of_ble_eq_true rfl) (Nat.le_of_ble_eq_true rfl) (Nat.le_of_ble_eq_true rfl) (by show 8 + 7630 ≤ 7302250; omega) (fun r1 h1 q1 => ?_)
  rw [q1.1, q1.2]
  exact hS
theorem law_S (L : Nat) (hL : L ≤ 6) (xs : Nat → Int32) : am_S am_Pr (some (L, xs)) 14 550 600000 7302250 227 (0, [some (.ref 16777216), none, none, none], [], [], 0, 0) (fun r _ => r = some (.int 1)) :=
  law_S0 L xs hoH ho_Me (law_from7 L hL xs hoH moH0 ho_counts.2.2.2 rfl (mo_Me moH0 moH0_len moH0_22) (fun h' a b => am_fresh_of a (fun q hq => (b q hq).trans (moH0_lt q hq))))
