/-! Methods of the reference as functions of its state. -/
def d_Mo_count (a : Int32) (s : mS) : Option (Int32) := if ¬ ((s.1 57) : Int32) = 0 then (if a = 0 then (if ((s.1 57) : Int32) = 0 then (some 0) else (some 1)) else (if a = 1 then (some (s.1 55)) else (if a = 2 then (some (s.1 56)) else (if a = 3 then (some (s.1 10)) else (if a = 4 then (some (s.1 15)) else (if a = 5 then ((d_Mo_waiting 1 s).bind fun q20 => (some q20)) else (if a = 6 then ((d_Mo_waiting 0 s).bind fun q34 => (some q34)) else (if a = 7 then (some (s.1 1)) else (if a = 8 then (some ((((s.1 60) + 500) - 1) / 500)) else (if a = 9 then (some (s.1 59)) else (some (-1)))))))))))) else (if (a : Int32) ≤ 0 then (if ¬ (a : Int32) = 8 then (if a = 0 then (if ((s.1 57) : Int32) = 0 then (some 0) else (some 1)) else (if a = 1 then (some (s.1 55)) else (if a = 2 then (some (s.1 56)) else (if a = 3 then (some (s.1 10)) else (if a = 4 then (some (s.1 15)) else (if a = 5 then ((d_Mo_waiting 1 s).bind fun q81 => (some q81)) else (if a = 6 then ((d_Mo_waiting 0 s).bind fun q95 => (some q95)) else (if a = 7 then (some (s.1 1)) else (if a = 8 then (some ((((s.1 60) + 500) - 1) / 500)) else (if a = 9 then (some (s.1 59)) else (some (-1)))))))))))) else (some 0)) else (if (a : Int32) < 7 then (some 0) else (if ¬ (a : Int32) = 8 then (if a = 0 then (if ((s.1 57) : Int32) = 0 then (some 0) else (some 1)) else (if a = 1 then (some (s.1 55)) else (if a = 2 then (some (s.1 56)) else (if a = 3 then (some (s.1 10)) else (if a = 4 then (some (s.1 15)) else (if a = 5 then ((d_Mo_waiting 1 s).bind fun q142 => (some q142)) else (if a = 6 then ((d_Mo_waiting 0 s).bind fun q156 => (some q156)) else (if a = 7 then (some (s.1 1)) else (if a = 8 then (some ((((s.1 60) + 500) - 1) / 500)) else (if a = 9 then (some (s.1 59)) else (some (-1)))))))))))) else (some 0))))
set_option maxHeartbeats 4000000 in
set_option maxRecDepth 100000 in
theorem k_Mo_count (a : Int32) (s : mS) (h0 : am_H) (hM : RM s h0) (q : Int32) (hd : d_Mo_count a s = some q) : am_Me am_Pr none 1 23 0 0 94 [.ref 22, .int a] h0 (am_is (some (.int q)) h0) := by
  refine am_enter (d := hd_Mo_count) rfl (by decide +kernel) (Nat.le_of_ble_eq_true rfl) ?_
  show am_S _ _ _ _ _ _ _ (0, [some (.ref 22), some (.int a)], [], h0, 0, 0) _
  unfold d_Mo_count at hd
  refine am_steps ok_Mo_count 1 (x' := (1, [some (.ref 22), some (.int a)], [.ref 22], h0, 0, 0)) rfl (Nat.le_of_ble_eq_true rfl) (Nat.le_of_ble_eq_true rfl) ?_
  refine mr_get ok_Mo_count rfl hM (v := .int (s.1 57)) rfl (pc' := 4) rfl (Nat.le_of_ble_eq_true rfl) (Nat.le_of_ble_eq_true rfl) ?_
  refine am_steps ok_Mo_count 1 (x' := (if ¬ ((s.1 57) : Int32) = 0 then 25 else 7, [some (.ref 22), some (.int a)], [], h0, 0, 0)) rfl (Nat.le_of_ble_eq_true rfl) (Nat.le_of_ble_eq_true rfl) ?_
  refine am_if (fun hc1 => ?_) (fun hc1 => ?_)
  · rw [if_pos hc1] at hd
    refine am_steps ok_Mo_count 1 (x' := (26, [some (.ref 22), some (.int a)], [.int a], h0, 0, 0)) rfl (Nat.le_of_ble_eq_true rfl) (Nat.le_of_ble_eq_true rfl) ?_
    by_cases hc2 : a = 0
    · rw [if_pos hc2] at hd
      have KT3 : am_S am_Pr none 1 23 0 0 94 (80, [some (.ref 22), some (.int a)], [], h0, 0, 0) (am_is (some (.int q)) h0) := by
        refine am_steps ok_Mo_count 1 (x' := (81, [some (.ref 22), some (.int a)], [.ref 22], h0, 0, 0)) rfl (Nat.le_of_ble_eq_true rfl) (Nat.le_of_ble_eq_true rfl) ?_
        refine mr_get ok_Mo_count rfl hM (v := .int (s.1 57)) rfl (pc' := 84) rfl (Nat.le_of_ble_eq_true rfl) (Nat.le_of_ble_eq_true rfl) ?_
        refine am_steps ok_Mo_count 1 (x' := (if ((s.1 57) : Int32) = 0 then 91 else 87, [some (.ref 22), some (.int a)], [], h0, 0, 0)) rfl (Nat.le_of_ble_eq_true rfl) (Nat.le_of_ble_eq_true rfl) ?_
        refine am_if (fun hc4 => ?_) (fun hc4 => ?_)
        · rw [if_pos hc4] at hd
          refine am_steps ok_Mo_count 1 (x' := (92, [some (.ref 22), some (.int a)], [.int 0], h0, 0, 0)) rfl (Nat.le_of_ble_eq_true rfl) (Nat.le_of_ble_eq_true rfl) ?_
          cases hd; exact am_ret ok_Mo_count rfl (Nat.le_of_ble_eq_true rfl) (Nat.le_of_ble_eq_true rfl) ⟨rfl, rfl⟩
        · rw [if_neg hc4] at hd
          refine am_steps ok_Mo_count 2 (x' := (92, [some (.ref 22), some (.int a)], [.int 1], h0, 0, 0)) rfl (Nat.le_of_ble_eq_true rfl) (Nat.le_of_ble_eq_true rfl) ?_
          cases hd; exact am_ret ok_Mo_count rfl (Nat.le_of_ble_eq_true rfl) (Nat.le_of_ble_eq_true rfl) ⟨rfl, rfl⟩
      exact ar_tswk ok_Mo_count rfl hc2 (by decide +kernel) rfl rfl (Nat.le_of_ble_eq_true rfl) (Nat.le_of_ble_eq_true rfl) KT3
    rw [if_neg hc2] at hd
    by_cases hc6 : a = 1
    · rw [if_pos hc6] at hd
      have KT7 : am_S am_Pr none 1 23 0 0 94 (93, [some (.ref 22), some (.int a)], [], h0, 0, 0) (am_is (some (.int q)) h0) := by
        refine am_steps ok_Mo_count 1 (x' := (94, [some (.ref 22), some (.int a)], [.ref 22], h0, 0, 0)) rfl (Nat.le_of_ble_eq_true rfl) (Nat.le_of_ble_eq_true rfl) ?_
        refine mr_get ok_Mo_count rfl hM (v := .int (s.1 55)) rfl (pc' := 97) rfl (Nat.le_of_ble_eq_true rfl) (Nat.le_of_ble_eq_true rfl) ?_
        cases hd; exact am_ret ok_Mo_count rfl (Nat.le_of_ble_eq_true rfl) (Nat.le_of_ble_eq_true rfl) ⟨rfl, rfl⟩
      exact ar_tswk ok_Mo_count rfl hc6 (by decide +kernel) rfl rfl (Nat.le_of_ble_eq_true rfl) (Nat.le_of_ble_eq_true rfl) KT7
    rw [if_neg hc6] at hd
    by_cases hc9 : a = 2
    · rw [if_pos hc9] at hd
      have KT10 : am_S am_Pr none 1 23 0 0 94 (98, [some (.ref 22), some (.int a)], [], h0, 0, 0) (am_is (some (.int q)) h0) := by
        refine am_steps ok_Mo_count 1 (x' := (99, [some (.ref 22), some (.int a)], [.ref 22], h0, 0, 0)) rfl (Nat.le_of_ble_eq_true rfl) (Nat.le_of_ble_eq_true rfl) ?_
        refine mr_get ok_Mo_count rfl hM (v := .int (s.1 56)) rfl (pc' := 102) rfl (Nat.le_of_ble_eq_true rfl) (Nat.le_of_ble_eq_true rfl) ?_
        cases hd; exact am_ret ok_Mo_count rfl (Nat.le_of_ble_eq_true rfl) (Nat.le_of_ble_eq_true rfl) ⟨rfl, rfl⟩
      exact ar_tswk ok_Mo_count rfl hc9 (by decide +kernel) rfl rfl (Nat.le_of_ble_eq_true rfl) (Nat.le_of_ble_eq_true rfl) KT10
    rw [if_neg hc9] at hd
    by_cases hc12 : a = 3
    · rw [if_pos hc12] at hd
      have KT13 : am_S am_Pr none 1 23 0 0 94 (103, [some (.ref 22), some (.int a)], [], h0, 0, 0) (am_is (some (.int q)) h0) := by
        refine am_steps ok_Mo_count 1 (x' := (104, [some (.ref 22), some (.int a)], [.ref 22], h0, 0, 0)) rfl (Nat.le_of_ble_eq_true rfl) (Nat.le_of_ble_eq_true rfl) ?_
        refine mr_get ok_Mo_count rfl hM (v := .int (s.1 10)) rfl (pc' := 107) rfl (Nat.le_of_ble_eq_true rfl) (Nat.le_of_ble_eq_true rfl) ?_
        cases hd; exact am_ret ok_Mo_count rfl (Nat.le_of_ble_eq_true rfl) (Nat.le_of_ble_eq_true rfl) ⟨rfl, rfl⟩
      exact ar_tswk ok_Mo_count rfl hc12 (by decide +kernel) rfl rfl (Nat.le_of_ble_eq_true rfl) (Nat.le_of_ble_eq_true rfl) KT13
    rw [if_neg hc12] at hd
    by_cases hc15 : a = 4
    · rw [if_pos hc15] at hd
      have KT16 : am_S am_Pr none 1 23 0 0 94 (108, [some (.ref 22), some (.int a)], [], h0, 0, 0) (am_is (some (.int q)) h0) := by
        refine am_steps ok_Mo_count 1 (x' := (109, [some (.ref 22), some (.int a)], [.ref 22], h0, 0, 0)) rfl (Nat.le_of_ble_eq_true rfl) (Nat.le_of_ble_eq_true rfl) ?_
        refine mr_get ok_Mo_count rfl hM (v := .int (s.1 15)) rfl (pc' := 112) rfl (Nat.le_of_ble_eq_true rfl) (Nat.le_of_ble_eq_true rfl) ?_
        cases hd; exact am_ret ok_Mo_count rfl (Nat.le_of_ble_eq_true rfl) (Nat.le_of_ble_eq_true rfl) ⟨rfl, rfl⟩
      exact ar_tswk ok_Mo_count rfl hc15 (by decide +kernel) rfl rfl (Nat.le_of_ble_eq_true rfl) (Nat.le_of_ble_eq_true rfl) KT16
    rw [if_neg hc15] at hd
    by_cases hc18 : a = 5
    · rw [if_pos hc18] at hd
      have KT19 : am_S am_Pr none 1 23 0 0 94 (113, [some (.ref 22), some (.int a)], [], h0, 0, 0) (am_is (some (.int q)) h0) := by
        refine am_steps ok_Mo_count 2 (x' := (115, [some (.ref 22), some (.int a)], [.int 1, .ref 22], h0, 0, 0)) rfl (Nat.le_of_ble_eq_true rfl) (Nat.le_of_ble_eq_true rfl) ?_
        obtain ⟨q20, hq21, hd22⟩ := Option.bind_eq_some_iff.mp hd; clear hd; have hd := hd22; clear hd22
        refine ar_cv ok_Mo_count hk_Mo_waiting rfl rfl (As := [.int 1]) (ad := 22) (rest := []) rfl rfl hM.1 (Nat.le_of_ble_eq_true rfl) (k_Mo_waiting 1 s h0 hM q20 hq21) (Nat.le_of_ble_eq_true rfl) (Nat.le_of_ble_eq_true rfl) (Nat.le_of_ble_eq_true rfl) (Nat.le_of_ble_eq_true rfl) (pc' := 118) rfl (fun r23 h25 z24 => ?_)
        obtain ⟨z29, z30⟩ := z24; subst z29; rw [z30]
        show am_S _ _ _ _ _ _ _ (118, [some (.ref 22), some (.int a)], [.int q20], h0, 0, 0) _
        cases hd; exact am_ret ok_Mo_count rfl (Nat.le_of_ble_eq_true rfl) (Nat.le_of_ble_eq_true rfl) ⟨rfl, rfl⟩
      exact ar_tswk ok_Mo_count rfl hc18 (by decide +kernel) rfl rfl (Nat.le_of_ble_eq_true rfl) (Nat.le_of_ble_eq_true rfl) KT19
    rw [if_neg hc18] at hd
    by_cases hc32 : a = 6
    · rw [if_pos hc32] at hd
      have KT33 : am_S am_Pr none 1 23 0 0 94 (119, [some (.ref 22), some (.int a)], [], h0, 0, 0) (am_is (some (.int q)) h0) := by
        refine am_steps ok_Mo_count 2 (x' := (121, [some (.ref 22), some (.int a)], [.int 0, .ref 22], h0, 0, 0)) rfl (Nat.le_of_ble_eq_true rfl) (Nat.le_of_ble_eq_true rfl) ?_
        obtain ⟨q34, hq35, hd36⟩ := Option.bind_eq_some_iff.mp hd; clear hd; have hd := hd36; clear hd36
        refine ar_cv ok_Mo_count hk_Mo_waiting rfl rfl (As := [.int 0]) (ad := 22) (rest := []) rfl rfl hM.1 (Nat.le_of_ble_eq_true rfl) (k_Mo_waiting 0 s h0 hM q34 hq35) (Nat.le_of_ble_eq_true rfl) (Nat.le_of_ble_eq_true rfl) (Nat.le_of_ble_eq_true rfl) (Nat.le_of_ble_eq_true rfl) (pc' := 124) rfl (fun r37 h39 z38 => ?_)
        obtain ⟨z43, z44⟩ := z38; subst z43; rw [z44]
        show am_S _ _ _ _ _ _ _ (124, [some (.ref 22), some (.int a)], [.int q34], h0, 0, 0) _
        cases hd; exact am_ret ok_Mo_count rfl (Nat.le_of_ble_eq_true rfl) (Nat.le_of_ble_eq_true rfl) ⟨rfl, rfl⟩
      exact ar_tswk ok_Mo_count rfl hc32 (by decide +kernel) rfl rfl (Nat.le_of_ble_eq_true rfl) (Nat.le_of_ble_eq_true rfl) KT33
    rw [if_neg hc32] at hd
    by_cases hc46 : a = 7
    · rw [if_pos hc46] at hd
      have KT47 : am_S am_Pr none 1 23 0 0 94 (125, [some (.ref 22), some (.int a)], [], h0, 0, 0) (am_is (some (.int q)) h0) := by
        refine am_steps ok_Mo_count 1 (x' := (126, [some (.ref 22), some (.int a)], [.ref 22], h0, 0, 0)) rfl (Nat.le_of_ble_eq_true rfl) (Nat.le_of_ble_eq_true rfl) ?_
        refine mr_get ok_Mo_count rfl hM (v := .int (s.1 1)) rfl (pc' := 129) rfl (Nat.le_of_ble_eq_true rfl) (Nat.le_of_ble_eq_true rfl) ?_
        cases hd; exact am_ret ok_Mo_count rfl (Nat.le_of_ble_eq_true rfl) (Nat.le_of_ble_eq_true rfl) ⟨rfl, rfl⟩
      exact ar_tswk ok_Mo_count rfl hc46 (by decide +kernel) rfl rfl (Nat.le_of_ble_eq_true rfl) (Nat.le_of_ble_eq_true rfl) KT47
    rw [if_neg hc46] at hd
    by_cases hc49 : a = 8
    · rw [if_pos hc49] at hd
      have KT50 : am_S am_Pr none 1 23 0 0 94 (130, [some (.ref 22), some (.int a)], [], h0, 0, 0) (am_is (some (.int q)) h0) := by
        refine am_steps ok_Mo_count 1 (x' := (131, [some (.ref 22), some (.int a)], [.ref 22], h0, 0, 0)) rfl (Nat.le_of_ble_eq_true rfl) (Nat.le_of_ble_eq_true rfl) ?_
        refine mr_get ok_Mo_count rfl hM (v := .int (s.1 60)) rfl (pc' := 134) rfl (Nat.le_of_ble_eq_true rfl) (Nat.le_of_ble_eq_true rfl) ?_
        refine am_steps ok_Mo_count 5 (x' := (143, [some (.ref 22), some (.int a)], [.int 500, .int (((s.1 60) + 500) - 1)], h0, 0, 0)) rfl (Nat.le_of_ble_eq_true rfl) (Nat.le_of_ble_eq_true rfl) ?_
        refine ar_idiv ok_Mo_count rfl (by decide +kernel) (w := ((((s.1 60) + 500) - 1) / 500)) rfl (pc' := 144) rfl (Nat.le_of_ble_eq_true rfl) (Nat.le_of_ble_eq_true rfl) ?_
        cases hd; exact am_ret ok_Mo_count rfl (Nat.le_of_ble_eq_true rfl) (Nat.le_of_ble_eq_true rfl) ⟨rfl, rfl⟩
      exact ar_tswk ok_Mo_count rfl hc49 (by decide +kernel) rfl rfl (Nat.le_of_ble_eq_true rfl) (Nat.le_of_ble_eq_true rfl) KT50
    rw [if_neg hc49] at hd
    by_cases hc52 : a = 9
    · rw [if_pos hc52] at hd
      have KT53 : am_S am_Pr none 1 23 0 0 94 (145, [some (.ref 22), some (.int a)], [], h0, 0, 0) (am_is (some (.int q)) h0) := by
        refine am_steps ok_Mo_count 1 (x' := (146, [some (.ref 22), some (.int a)], [.ref 22], h0, 0, 0)) rfl (Nat.le_of_ble_eq_true rfl) (Nat.le_of_ble_eq_true rfl) ?_
        refine mr_get ok_Mo_count rfl hM (v := .int (s.1 59)) rfl (pc' := 149) rfl (Nat.le_of_ble_eq_true rfl) (Nat.le_of_ble_eq_true rfl) ?_
        cases hd; exact am_ret ok_Mo_count rfl (Nat.le_of_ble_eq_true rfl) (Nat.le_of_ble_eq_true rfl) ⟨rfl, rfl⟩
      exact ar_tswk ok_Mo_count rfl hc52 (by decide +kernel) rfl rfl (Nat.le_of_ble_eq_true rfl) (Nat.le_of_ble_eq_true rfl) KT53
    rw [if_neg hc52] at hd
    have KT55 : am_S am_Pr none 1 23 0 0 94 (150, [some (.ref 22), some (.int a)], [], h0, 0, 0) (am_is (some (.int q)) h0) := by
      refine am_steps ok_Mo_count 1 (x' := (151, [some (.ref 22), some (.int a)], [.int (-1)], h0, 0, 0)) rfl (Nat.le_of_ble_eq_true rfl) (Nat.le_of_ble_eq_true rfl) ?_
      cases hd; exact am_ret ok_Mo_count rfl (Nat.le_of_ble_eq_true rfl) (Nat.le_of_ble_eq_true rfl) ⟨rfl, rfl⟩
    have ho60 : a.toInt < 0 ∨ 9 < a.toInt := tsw_out (fun c57 h58 h59 e56 => by
      have c57x : c57 = 0 ∨ c57 = 1 ∨ c57 = 2 ∨ c57 = 3 ∨ c57 = 4 ∨ c57 = 5 ∨ c57 = 6 ∨ c57 = 7 ∨ c57 = 8 ∨ c57 = 9 := by omega
      rcases c57x with rfl | rfl | rfl | rfl | rfl | rfl | rfl | rfl | rfl | rfl
      · exact hc2 e56
      · exact hc6 e56
      · exact hc9 e56
      · exact hc12 e56
      · exact hc15 e56
      · exact hc18 e56
      · exact hc32 e56
      · exact hc46 e56
      · exact hc49 e56
      · exact hc52 e56)
    exact ar_tsw ok_Mo_count rfl ho60 rfl (Nat.le_of_ble_eq_true rfl) (Nat.le_of_ble_eq_true rfl) KT55
  · rw [if_neg hc1] at hd
    refine am_steps ok_Mo_count 2 (x' := (if (a : Int32) ≤ 0 then 17 else 11, [some (.ref 22), some (.int a)], [], h0, 0, 0)) rfl (Nat.le_of_ble_eq_true rfl) (Nat.le_of_ble_eq_true rfl) ?_
    refine am_if (fun hc61 => ?_) (fun hc61 => ?_)
    · rw [if_pos hc61] at hd
      refine am_steps ok_Mo_count 3 (x' := (if ¬ (a : Int32) = 8 then 25 else 23, [some (.ref 22), some (.int a)], [], h0, 0, 0)) rfl (Nat.le_of_ble_eq_true rfl) (Nat.le_of_ble_eq_true rfl) ?_
      refine am_if (fun hc62 => ?_) (fun hc62 => ?_)
      · rw [if_pos hc62] at hd
        refine am_steps ok_Mo_count 1 (x' := (26, [some (.ref 22), some (.int a)], [.int a], h0, 0, 0)) rfl (Nat.le_of_ble_eq_true rfl) (Nat.le_of_ble_eq_true rfl) ?_
        by_cases hc63 : a = 0
        · rw [if_pos hc63] at hd
          have KT64 : am_S am_Pr none 1 23 0 0 94 (80, [some (.ref 22), some (.int a)], [], h0, 0, 0) (am_is (some (.int q)) h0) := by
            refine am_steps ok_Mo_count 1 (x' := (81, [some (.ref 22), some (.int a)], [.ref 22], h0, 0, 0)) rfl (Nat.le_of_ble_eq_true rfl) (Nat.le_of_ble_eq_true rfl) ?_
            refine mr_get ok_Mo_count rfl hM (v := .int (s.1 57)) rfl (pc' := 84) rfl (Nat.le_of_ble_eq_true rfl) (Nat.le_of_ble_eq_true rfl) ?_
            refine am_steps ok_Mo_count 1 (x' := (if ((s.1 57) : Int32) = 0 then 91 else 87, [some (.ref 22), some (.int a)], [], h0, 0, 0)) rfl (Nat.le_of_ble_eq_true rfl) (Nat.le_of_ble_eq_true rfl) ?_
            refine am_if (fun hc65 => ?_) (fun hc65 => ?_)
            · rw [if_pos hc65] at hd
              refine am_steps ok_Mo_count 1 (x' := (92, [some (.ref 22), some (.int a)], [.int 0], h0, 0, 0)) rfl (Nat.le_of_ble_eq_true rfl) (Nat.le_of_ble_eq_true rfl) ?_
              cases hd; exact am_ret ok_Mo_count rfl (Nat.le_of_ble_eq_true rfl) (Nat.le_of_ble_eq_true rfl) ⟨rfl, rfl⟩
            · rw [if_neg hc65] at hd
              refine am_steps ok_Mo_count 2 (x' := (92, [some (.ref 22), some (.int a)], [.int 1], h0, 0, 0)) rfl (Nat.le_of_ble_eq_true rfl) (Nat.le_of_ble_eq_true rfl) ?_
              cases hd; exact am_ret ok_Mo_count rfl (Nat.le_of_ble_eq_true rfl) (Nat.le_of_ble_eq_true rfl) ⟨rfl, rfl⟩
          exact ar_tswk ok_Mo_count rfl hc63 (by decide +kernel) rfl rfl (Nat.le_of_ble_eq_true rfl) (Nat.le_of_ble_eq_true rfl) KT64
        rw [if_neg hc63] at hd
        by_cases hc67 : a = 1
        · rw [if_pos hc67] at hd
          have KT68 : am_S am_Pr none 1 23 0 0 94 (93, [some (.ref 22), some (.int a)], [], h0, 0, 0) (am_is (some (.int q)) h0) := by
            refine am_steps ok_Mo_count 1 (x' := (94, [some (.ref 22), some (.int a)], [.ref 22], h0, 0, 0)) rfl (Nat.le_of_ble_eq_true rfl) (Nat.le_of_ble_eq_true rfl) ?_
            refine mr_get ok_Mo_count rfl hM (v := .int (s.1 55)) rfl (pc' := 97) rfl (Nat.le_of_ble_eq_true rfl) (Nat.le_of_ble_eq_true rfl) ?_
            cases hd; exact am_ret ok_Mo_count rfl (Nat.le_of_ble_eq_true rfl) (Nat.le_of_ble_eq_true rfl) ⟨rfl, rfl⟩
          exact ar_tswk ok_Mo_count rfl hc67 (by decide +kernel) rfl rfl (Nat.le_of_ble_eq_true rfl) (Nat.le_of_ble_eq_true rfl) KT68
        rw [if_neg hc67] at hd
        by_cases hc70 : a = 2
        · rw [if_pos hc70] at hd
          have KT71 : am_S am_Pr none 1 23 0 0 94 (98, [some (.ref 22), some (.int a)], [], h0, 0, 0) (am_is (some (.int q)) h0) := by
            refine am_steps ok_Mo_count 1 (x' := (99, [some (.ref 22), some (.int a)], [.ref 22], h0, 0, 0)) rfl (Nat.le_of_ble_eq_true rfl) (Nat.le_of_ble_eq_true rfl) ?_
            refine mr_get ok_Mo_count rfl hM (v := .int (s.1 56)) rfl (pc' := 102) rfl (Nat.le_of_ble_eq_true rfl) (Nat.le_of_ble_eq_true rfl) ?_
            cases hd; exact am_ret ok_Mo_count rfl (Nat.le_of_ble_eq_true rfl) (Nat.le_of_ble_eq_true rfl) ⟨rfl, rfl⟩
          exact ar_tswk ok_Mo_count rfl hc70 (by decide +kernel) rfl rfl (Nat.le_of_ble_eq_true rfl) (Nat.le_of_ble_eq_true rfl) KT71
        rw [if_neg hc70] at hd
        by_cases hc73 : a = 3
        · rw [if_pos hc73] at hd
          have KT74 : am_S am_Pr none 1 23 0 0 94 (103, [some (.ref 22), some (.int a)], [], h0, 0, 0) (am_is (some (.int q)) h0) := by
            refine am_steps ok_Mo_count 1 (x' := (104, [some (.ref 22), some (.int a)], [.ref 22], h0, 0, 0)) rfl (Nat.le_of_ble_eq_true rfl) (Nat.le_of_ble_eq_true rfl) ?_
            refine mr_get ok_Mo_count rfl hM (v := .int (s.1 10)) rfl (pc' := 107) rfl (Nat.le_of_ble_eq_true rfl) (Nat.le_of_ble_eq_true rfl) ?_
            cases hd; exact am_ret ok_Mo_count rfl (Nat.le_of_ble_eq_true rfl) (Nat.le_of_ble_eq_true rfl) ⟨rfl, rfl⟩
          exact ar_tswk ok_Mo_count rfl hc73 (by decide +kernel) rfl rfl (Nat.le_of_ble_eq_true rfl) (Nat.le_of_ble_eq_true rfl) KT74
        rw [if_neg hc73] at hd
        by_cases hc76 : a = 4
        · rw [if_pos hc76] at hd
          have KT77 : am_S am_Pr none 1 23 0 0 94 (108, [some (.ref 22), some (.int a)], [], h0, 0, 0) (am_is (some (.int q)) h0) := by
            refine am_steps ok_Mo_count 1 (x' := (109, [some (.ref 22), some (.int a)], [.ref 22], h0, 0, 0)) rfl (Nat.le_of_ble_eq_true rfl) (Nat.le_of_ble_eq_true rfl) ?_
            refine mr_get ok_Mo_count rfl hM (v := .int (s.1 15)) rfl (pc' := 112) rfl (Nat.le_of_ble_eq_true rfl) (Nat.le_of_ble_eq_true rfl) ?_
            cases hd; exact am_ret ok_Mo_count rfl (Nat.le_of_ble_eq_true rfl) (Nat.le_of_ble_eq_true rfl) ⟨rfl, rfl⟩
          exact ar_tswk ok_Mo_count rfl hc76 (by decide +kernel) rfl rfl (Nat.le_of_ble_eq_true rfl) (Nat.le_of_ble_eq_true rfl) KT77
        rw [if_neg hc76] at hd
        by_cases hc79 : a = 5
        · rw [if_pos hc79] at hd
          have KT80 : am_S am_Pr none 1 23 0 0 94 (113, [some (.ref 22), some (.int a)], [], h0, 0, 0) (am_is (some (.int q)) h0) := by
            refine am_steps ok_Mo_count 2 (x' := (115, [some (.ref 22), some (.int a)], [.int 1, .ref 22], h0, 0, 0)) rfl (Nat.le_of_ble_eq_true rfl) (Nat.le_of_ble_eq_true rfl) ?_
            obtain ⟨q81, hq82, hd83⟩ := Option.bind_eq_some_iff.mp hd; clear hd; have hd := hd83; clear hd83
            refine ar_cv ok_Mo_count hk_Mo_waiting rfl rfl (As := [.int 1]) (ad := 22) (rest := []) rfl rfl hM.1 (Nat.le_of_ble_eq_true rfl) (k_Mo_waiting 1 s h0 hM q81 hq82) (Nat.le_of_ble_eq_true rfl) (Nat.le_of_ble_eq_true rfl) (Nat.le_of_ble_eq_true rfl) (Nat.le_of_ble_eq_true rfl) (pc' := 118) rfl (fun r84 h86 z85 => ?_)
            obtain ⟨z90, z91⟩ := z85; subst z90; rw [z91]
            show am_S _ _ _ _ _ _ _ (118, [some (.ref 22), some (.int a)], [.int q81], h0, 0, 0) _
            cases hd; exact am_ret ok_Mo_count rfl (Nat.le_of_ble_eq_true rfl) (Nat.le_of_ble_eq_true rfl) ⟨rfl, rfl⟩
          exact ar_tswk ok_Mo_count rfl hc79 (by decide +kernel) rfl rfl (Nat.le_of_ble_eq_true rfl) (Nat.le_of_ble_eq_true rfl) KT80
        rw [if_neg hc79] at hd
        by_cases hc93 : a = 6
        · rw [if_pos hc93] at hd
          have KT94 : am_S am_Pr none 1 23 0 0 94 (119, [some (.ref 22), some (.int a)], [], h0, 0, 0) (am_is (some (.int q)) h0) := by
            refine am_steps ok_Mo_count 2 (x' := (121, [some (.ref 22), some (.int a)], [.int 0, .ref 22], h0, 0, 0)) rfl (Nat.le_of_ble_eq_true rfl) (Nat.le_of_ble_eq_true rfl) ?_
            obtain ⟨q95, hq96, hd97⟩ := Option.bind_eq_some_iff.mp hd; clear hd; have hd := hd97; clear hd97
            refine ar_cv ok_Mo_count hk_Mo_waiting rfl rfl (As := [.int 0]) (ad := 22) (rest := []) rfl rfl hM.1 (Nat.le_of_ble_eq_true rfl) (k_Mo_waiting 0 s h0 hM q95 hq96) (Nat.le_of_ble_eq_true rfl) (Nat.le_of_ble_eq_true rfl) (Nat.le_of_ble_eq_true rfl) (Nat.le_of_ble_eq_true rfl) (pc' := 124) rfl (fun r98 h100 z99 => ?_)
            obtain ⟨z104, z105⟩ := z99; subst z104; rw [z105]
            show am_S _ _ _ _ _ _ _ (124, [some (.ref 22), some (.int a)], [.int q95], h0, 0, 0) _
            cases hd; exact am_ret ok_Mo_count rfl (Nat.le_of_ble_eq_true rfl) (Nat.le_of_ble_eq_true rfl) ⟨rfl, rfl⟩
          exact ar_tswk ok_Mo_count rfl hc93 (by decide +kernel) rfl rfl (Nat.le_of_ble_eq_true rfl) (Nat.le_of_ble_eq_true rfl) KT94
        rw [if_neg hc93] at hd
        by_cases hc107 : a = 7
        · rw [if_pos hc107] at hd
          have KT108 : am_S am_Pr none 1 23 0 0 94 (125, [some (.ref 22), some (.int a)], [], h0, 0, 0) (am_is (some (.int q)) h0) := by
            refine am_steps ok_Mo_count 1 (x' := (126, [some (.ref 22), some (.int a)], [.ref 22], h0, 0, 0)) rfl (Nat.le_of_ble_eq_true rfl) (Nat.le_of_ble_eq_true rfl) ?_
            refine mr_get ok_Mo_count rfl hM (v := .int (s.1 1)) rfl (pc' := 129) rfl (Nat.le_of_ble_eq_true rfl) (Nat.le_of_ble_eq_true rfl) ?_
            cases hd; exact am_ret ok_Mo_count rfl (Nat.le_of_ble_eq_true rfl) (Nat.le_of_ble_eq_true rfl) ⟨rfl, rfl⟩
          exact ar_tswk ok_Mo_count rfl hc107 (by decide +kernel) rfl rfl (Nat.le_of_ble_eq_true rfl) (Nat.le_of_ble_eq_true rfl) KT108
        rw [if_neg hc107] at hd
        by_cases hc110 : a = 8
        · rw [if_pos hc110] at hd
          have KT111 : am_S am_Pr none 1 23 0 0 94 (130, [some (.ref 22), some (.int a)], [], h0, 0, 0) (am_is (some (.int q)) h0) := by
            refine am_steps ok_Mo_count 1 (x' := (131, [some (.ref 22), some (.int a)], [.ref 22], h0, 0, 0)) rfl (Nat.le_of_ble_eq_true rfl) (Nat.le_of_ble_eq_true rfl) ?_
            refine mr_get ok_Mo_count rfl hM (v := .int (s.1 60)) rfl (pc' := 134) rfl (Nat.le_of_ble_eq_true rfl) (Nat.le_of_ble_eq_true rfl) ?_
            refine am_steps ok_Mo_count 5 (x' := (143, [some (.ref 22), some (.int a)], [.int 500, .int (((s.1 60) + 500) - 1)], h0, 0, 0)) rfl (Nat.le_of_ble_eq_true rfl) (Nat.le_of_ble_eq_true rfl) ?_
            refine ar_idiv ok_Mo_count rfl (by decide +kernel) (w := ((((s.1 60) + 500) - 1) / 500)) rfl (pc' := 144) rfl (Nat.le_of_ble_eq_true rfl) (Nat.le_of_ble_eq_true rfl) ?_
            cases hd; exact am_ret ok_Mo_count rfl (Nat.le_of_ble_eq_true rfl) (Nat.le_of_ble_eq_true rfl) ⟨rfl, rfl⟩
          exact ar_tswk ok_Mo_count rfl hc110 (by decide +kernel) rfl rfl (Nat.le_of_ble_eq_true rfl) (Nat.le_of_ble_eq_true rfl) KT111
        rw [if_neg hc110] at hd
        by_cases hc113 : a = 9
        · rw [if_pos hc113] at hd
          have KT114 : am_S am_Pr none 1 23 0 0 94 (145, [some (.ref 22), some (.int a)], [], h0, 0, 0) (am_is (some (.int q)) h0) := by
            refine am_steps ok_Mo_count 1 (x' := (146, [some (.ref 22), some (.int a)], [.ref 22], h0, 0, 0)) rfl (Nat.le_of_ble_eq_true rfl) (Nat.le_of_ble_eq_true rfl) ?_
            refine mr_get ok_Mo_count rfl hM (v := .int (s.1 59)) rfl (pc' := 149) rfl (Nat.le_of_ble_eq_true rfl) (Nat.le_of_ble_eq_true rfl) ?_
            cases hd; exact am_ret ok_Mo_count rfl (Nat.le_of_ble_eq_true rfl) (Nat.le_of_ble_eq_true rfl) ⟨rfl, rfl⟩
          exact ar_tswk ok_Mo_count rfl hc113 (by decide +kernel) rfl rfl (Nat.le_of_ble_eq_true rfl) (Nat.le_of_ble_eq_true rfl) KT114
        rw [if_neg hc113] at hd
        have KT116 : am_S am_Pr none 1 23 0 0 94 (150, [some (.ref 22), some (.int a)], [], h0, 0, 0) (am_is (some (.int q)) h0) := by
          refine am_steps ok_Mo_count 1 (x' := (151, [some (.ref 22), some (.int a)], [.int (-1)], h0, 0, 0)) rfl (Nat.le_of_ble_eq_true rfl) (Nat.le_of_ble_eq_true rfl) ?_
          cases hd; exact am_ret ok_Mo_count rfl (Nat.le_of_ble_eq_true rfl) (Nat.le_of_ble_eq_true rfl) ⟨rfl, rfl⟩
        have ho121 : a.toInt < 0 ∨ 9 < a.toInt := tsw_out (fun c118 h119 h120 e117 => by
          have c118x : c118 = 0 ∨ c118 = 1 ∨ c118 = 2 ∨ c118 = 3 ∨ c118 = 4 ∨ c118 = 5 ∨ c118 = 6 ∨ c118 = 7 ∨ c118 = 8 ∨ c118 = 9 := by omega
          rcases c118x with rfl | rfl | rfl | rfl | rfl | rfl | rfl | rfl | rfl | rfl
          · exact hc63 e117
          · exact hc67 e117
          · exact hc70 e117
          · exact hc73 e117
          · exact hc76 e117
          · exact hc79 e117
          · exact hc93 e117
          · exact hc107 e117
          · exact hc110 e117
          · exact hc113 e117)
        exact ar_tsw ok_Mo_count rfl ho121 rfl (Nat.le_of_ble_eq_true rfl) (Nat.le_of_ble_eq_true rfl) KT116
      · rw [if_neg hc62] at hd
        refine am_steps ok_Mo_count 1 (x' := (24, [some (.ref 22), some (.int a)], [.int 0], h0, 0, 0)) rfl (Nat.le_of_ble_eq_true rfl) (Nat.le_of_ble_eq_true rfl) ?_
        cases hd; exact am_ret ok_Mo_count rfl (Nat.le_of_ble_eq_true rfl) (Nat.le_of_ble_eq_true rfl) ⟨rfl, rfl⟩
    · rw [if_neg hc61] at hd
      refine am_steps ok_Mo_count 3 (x' := (if (a : Int32) < 7 then 23 else 17, [some (.ref 22), some (.int a)], [], h0, 0, 0)) rfl (Nat.le_of_ble_eq_true rfl) (Nat.le_of_ble_eq_true rfl) ?_
      refine am_if (fun hc122 => ?_) (fun hc122 => ?_)
      · rw [if_pos hc122] at hd
        refine am_steps ok_Mo_count 1 (x' := (24, [some (.ref 22), some (.int a)], [.int 0], h0, 0, 0)) rfl (Nat.le_of_ble_eq_true rfl) (Nat.le_of_ble_eq_true rfl) ?_
        cases hd; exact am_ret ok_Mo_count rfl (Nat.le_of_ble_eq_true rfl) (Nat.le_of_ble_eq_true rfl) ⟨rfl, rfl⟩
      · rw [if_neg hc122] at hd
        refine am_steps ok_Mo_count 3 (x' := (if ¬ (a : Int32) = 8 then 25 else 23, [some (.ref 22), some (.int a)], [], h0, 0, 0)) rfl (Nat.le_of_ble_eq_true rfl) (Nat.le_of_ble_eq_true rfl) ?_
        refine am_if (fun hc123 => ?_) (fun hc123 => ?_)
        · rw [if_pos hc123] at hd
          refine am_steps ok_Mo_count 1 (x' := (26, [some (.ref 22), some (.int a)], [.int a], h0, 0, 0)) rfl (Nat.le_of_ble_eq_true rfl) (Nat.le_of_ble_eq_true rfl) ?_
          by_cases hc124 : a = 0
          · rw [if_pos hc124] at hd
            have KT125 : am_S am_Pr none 1 23 0 0 94 (80, [some (.ref 22), some (.int a)], [], h0, 0, 0) (am_is (some (.int q)) h0) := by
              refine am_steps ok_Mo_count 1 (x' := (81, [some (.ref 22), some (.int a)], [.ref 22], h0, 0, 0)) rfl (Nat.le_of_ble_eq_true rfl) (Nat.le_of_ble_eq_true rfl) ?_
              refine mr_get ok_Mo_count rfl hM (v := .int (s.1 57)) rfl (pc' := 84) rfl (Nat.le_of_ble_eq_true rfl) (Nat.le_of_ble_eq_true rfl) ?_
              refine am_steps ok_Mo_count 1 (x' := (if ((s.1 57) : Int32) = 0 then 91 else 87, [some (.ref 22), some (.int a)], [], h0, 0, 0)) rfl (Nat.le_of_ble_eq_true rfl) (Nat.le_of_ble_eq_true rfl) ?_
              refine am_if (fun hc126 => ?_) (fun hc126 => ?_)
              · rw [if_pos hc126] at hd
                refine am_steps ok_Mo_count 1 (x' := (92, [some (.ref 22), some (.int a)], [.int 0], h0, 0, 0)) rfl (Nat.le_of_ble_eq_true rfl) (Nat.le_of_ble_eq_true rfl) ?_
                cases hd; exact am_ret ok_Mo_count rfl (Nat.le_of_ble_eq_true rfl) (Nat.le_of_ble_eq_true rfl) ⟨rfl, rfl⟩
              · rw [if_neg hc126] at hd
                refine am_steps ok_Mo_count 2 (x' := (92, [some (.ref 22), some (.int a)], [.int 1], h0, 0, 0)) rfl (Nat.le_of_ble_eq_true rfl) (Nat.le_of_ble_eq_true rfl) ?_
                cases hd; exact am_ret ok_Mo_count rfl (Nat.le_of_ble_eq_true rfl) (Nat.le_of_ble_eq_true rfl) ⟨rfl, rfl⟩
            exact ar_tswk ok_Mo_count rfl hc124 (by decide +kernel) rfl rfl (Nat.le_of_ble_eq_true rfl) (Nat.le_of_ble_eq_true rfl) KT125
          rw [if_neg hc124] at hd
          by_cases hc128 : a = 1
          · rw [if_pos hc128] at hd
            have KT129 : am_S am_Pr none 1 23 0 0 94 (93, [some (.ref 22), some (.int a)], [], h0, 0, 0) (am_is (some (.int q)) h0) := by
              refine am_steps ok_Mo_count 1 (x' := (94, [some (.ref 22), some (.int a)], [.ref 22], h0, 0, 0)) rfl (Nat.le_of_ble_eq_true rfl) (Nat.le_of_ble_eq_true rfl) ?_
              refine mr_get ok_Mo_count rfl hM (v := .int (s.1 55)) rfl (pc' := 97) rfl (Nat.le_of_ble_eq_true rfl) (Nat.le_of_ble_eq_true rfl) ?_
              cases hd; exact am_ret ok_Mo_count rfl (Nat.le_of_ble_eq_true rfl) (Nat.le_of_ble_eq_true rfl) ⟨rfl, rfl⟩
            exact ar_tswk ok_Mo_count rfl hc128 (by decide +kernel) rfl rfl (Nat.le_of_ble_eq_true rfl) (Nat.le_of_ble_eq_true rfl) KT129
          rw [if_neg hc128] at hd
          by_cases hc131 : a = 2
          · rw [if_pos hc131] at hd
            have KT132 : am_S am_Pr none 1 23 0 0 94 (98, [some (.ref 22), some (.int a)], [], h0, 0, 0) (am_is (some (.int q)) h0) := by
              refine am_steps ok_Mo_count 1 (x' := (99, [some (.ref 22), some (.int a)], [.ref 22], h0, 0, 0)) rfl (Nat.le_of_ble_eq_true rfl) (Nat.le_of_ble_eq_true rfl) ?_
              refine mr_get ok_Mo_count rfl hM (v := .int (s.1 56)) rfl (pc' := 102) rfl (Nat.le_of_ble_eq_true rfl) (Nat.le_of_ble_eq_true rfl) ?_
              cases hd; exact am_ret ok_Mo_count rfl (Nat.le_of_ble_eq_true rfl) (Nat.le_of_ble_eq_true rfl) ⟨rfl, rfl⟩
            exact ar_tswk ok_Mo_count rfl hc131 (by decide +kernel) rfl rfl (Nat.le_of_ble_eq_true rfl) (Nat.le_of_ble_eq_true rfl) KT132
          rw [if_neg hc131] at hd
          by_cases hc134 : a = 3
          · rw [if_pos hc134] at hd
            have KT135 : am_S am_Pr none 1 23 0 0 94 (103, [some (.ref 22), some (.int a)], [], h0, 0, 0) (am_is (some (.int q)) h0) := by
              refine am_steps ok_Mo_count 1 (x' := (104, [some (.ref 22), some (.int a)], [.ref 22], h0, 0, 0)) rfl (Nat.le_of_ble_eq_true rfl) (Nat.le_of_ble_eq_true rfl) ?_
              refine mr_get ok_Mo_count rfl hM (v := .int (s.1 10)) rfl (pc' := 107) rfl (Nat.le_of_ble_eq_true rfl) (Nat.le_of_ble_eq_true rfl) ?_
              cases hd; exact am_ret ok_Mo_count rfl (Nat.le_of_ble_eq_true rfl) (Nat.le_of_ble_eq_true rfl) ⟨rfl, rfl⟩
            exact ar_tswk ok_Mo_count rfl hc134 (by decide +kernel) rfl rfl (Nat.le_of_ble_eq_true rfl) (Nat.le_of_ble_eq_true rfl) KT135
          rw [if_neg hc134] at hd
          by_cases hc137 : a = 4
          · rw [if_pos hc137] at hd
            have KT138 : am_S am_Pr none 1 23 0 0 94 (108, [some (.ref 22), some (.int a)], [], h0, 0, 0) (am_is (some (.int q)) h0) := by
              refine am_steps ok_Mo_count 1 (x' := (109, [some (.ref 22), some (.int a)], [.ref 22], h0, 0, 0)) rfl (Nat.le_of_ble_eq_true rfl) (Nat.le_of_ble_eq_true rfl) ?_
              refine mr_get ok_Mo_count rfl hM (v := .int (s.1 15)) rfl (pc' := 112) rfl (Nat.le_of_ble_eq_true rfl) (Nat.le_of_ble_eq_true rfl) ?_
              cases hd; exact am_ret ok_Mo_count rfl (Nat.le_of_ble_eq_true rfl) (Nat.le_of_ble_eq_true rfl) ⟨rfl, rfl⟩
            exact ar_tswk ok_Mo_count rfl hc137 (by decide +kernel) rfl rfl (Nat.le_of_ble_eq_true rfl) (Nat.le_of_ble_eq_true rfl) KT138
          rw [if_neg hc137] at hd
          by_cases hc140 : a = 5
          · rw [if_pos hc140] at hd
            have KT141 : am_S am_Pr none 1 23 0 0 94 (113, [some (.ref 22), some (.int a)], [], h0, 0, 0) (am_is (some (.int q)) h0) := by
              refine am_steps ok_Mo_count 2 (x' := (115, [some (.ref 22), some (.int a)], [.int 1, .ref 22], h0, 0, 0)) rfl (Nat.le_of_ble_eq_true rfl) (Nat.le_of_ble_eq_true rfl) ?_
              obtain ⟨q142, hq143, hd144⟩ := Option.bind_eq_some_iff.mp hd; clear hd; have hd := hd144; clear hd144
              refine ar_cv ok_Mo_count hk_Mo_waiting rfl rfl (As := [.int 1]) (ad := 22) (rest := []) rfl rfl hM.1 (Nat.le_of_ble_eq_true rfl) (k_Mo_waiting 1 s h0 hM q142 hq143) (Nat.le_of_ble_eq_true rfl) (Nat.le_of_ble_eq_true rfl) (Nat.le_of_ble_eq_true rfl) (Nat.le_of_ble_eq_true rfl) (pc' := 118) rfl (fun r145 h147 z146 => ?_)
              obtain ⟨z151, z152⟩ := z146; subst z151; rw [z152]
              show am_S _ _ _ _ _ _ _ (118, [some (.ref 22), some (.int a)], [.int q142], h0, 0, 0) _
              cases hd; exact am_ret ok_Mo_count rfl (Nat.le_of_ble_eq_true rfl) (Nat.le_of_ble_eq_true rfl) ⟨rfl, rfl⟩
            exact ar_tswk ok_Mo_count rfl hc140 (by decide +kernel) rfl rfl (Nat.le_of_ble_eq_true rfl) (Nat.le_of_ble_eq_true rfl) KT141
          rw [if_neg hc140] at hd
          by_cases hc154 : a = 6
          · rw [if_pos hc154] at hd
            have KT155 : am_S am_Pr none 1 23 0 0 94 (119, [some (.ref 22), some (.int a)], [], h0, 0, 0) (am_is (some (.int q)) h0) := by
              refine am_steps ok_Mo_count 2 (x' := (121, [some (.ref 22), some (.int a)], [.int 0, .ref 22], h0, 0, 0)) rfl (Nat.le_of_ble_eq_true rfl) (Nat.le_of_ble_eq_true rfl) ?_
              obtain ⟨q156, hq157, hd158⟩ := Option.bind_eq_some_iff.mp hd; clear hd; have hd := hd158; clear hd158
              refine ar_cv ok_Mo_count hk_Mo_waiting rfl rfl (As := [.int 0]) (ad := 22) (rest := []) rfl rfl hM.1 (Nat.le_of_ble_eq_true rfl) (k_Mo_waiting 0 s h0 hM q156 hq157) (Nat.le_of_ble_eq_true rfl) (Nat.le_of_ble_eq_true rfl) (Nat.le_of_ble_eq_true rfl) (Nat.le_of_ble_eq_true rfl) (pc' := 124) rfl (fun r159 h161 z160 => ?_)
              obtain ⟨z165, z166⟩ := z160; subst z165; rw [z166]
              show am_S _ _ _ _ _ _ _ (124, [some (.ref 22), some (.int a)], [.int q156], h0, 0, 0) _
              cases hd; exact am_ret ok_Mo_count rfl (Nat.le_of_ble_eq_true rfl) (Nat.le_of_ble_eq_true rfl) ⟨rfl, rfl⟩
            exact ar_tswk ok_Mo_count rfl hc154 (by decide +kernel) rfl rfl (Nat.le_of_ble_eq_true rfl) (Nat.le_of_ble_eq_true rfl) KT155
          rw [if_neg hc154] at hd
          by_cases hc168 : a = 7
          · rw [if_pos hc168] at hd
            have KT169 : am_S am_Pr none 1 23 0 0 94 (125, [some (.ref 22), some (.int a)], [], h0, 0, 0) (am_is (some (.int q)) h0) := by
              refine am_steps ok_Mo_count 1 (x' := (126, [some (.ref 22), some (.int a)], [.ref 22], h0, 0, 0)) rfl (Nat.le_of_ble_eq_true rfl) (Nat.le_of_ble_eq_true rfl) ?_
              refine mr_get ok_Mo_count rfl hM (v := .int (s.1 1)) rfl (pc' := 129) rfl (Nat.le_of_ble_eq_true rfl) (Nat.le_of_ble_eq_true rfl) ?_
              cases hd; exact am_ret ok_Mo_count rfl (Nat.le_of_ble_eq_true rfl) (Nat.le_of_ble_eq_true rfl) ⟨rfl, rfl⟩
            exact ar_tswk ok_Mo_count rfl hc168 (by decide +kernel) rfl rfl (Nat.le_of_ble_eq_true rfl) (Nat.le_of_ble_eq_true rfl) KT169
          rw [if_neg hc168] at hd
          by_cases hc171 : a = 8
          · rw [if_pos hc171] at hd
            have KT172 : am_S am_Pr none 1 23 0 0 94 (130, [some (.ref 22), some (.int a)], [], h0, 0, 0) (am_is (some (.int q)) h0) := by
              refine am_steps ok_Mo_count 1 (x' := (131, [some (.ref 22), some (.int a)], [.ref 22], h0, 0, 0)) rfl (Nat.le_of_ble_eq_true rfl) (Nat.le_of_ble_eq_true rfl) ?_
              refine mr_get ok_Mo_count rfl hM (v := .int (s.1 60)) rfl (pc' := 134) rfl (Nat.le_of_ble_eq_true rfl) (Nat.le_of_ble_eq_true rfl) ?_
              refine am_steps ok_Mo_count 5 (x' := (143, [some (.ref 22), some (.int a)], [.int 500, .int (((s.1 60) + 500) - 1)], h0, 0, 0)) rfl (Nat.le_of_ble_eq_true rfl) (Nat.le_of_ble_eq_true rfl) ?_
              refine ar_idiv ok_Mo_count rfl (by decide +kernel) (w := ((((s.1 60) + 500) - 1) / 500)) rfl (pc' := 144) rfl (Nat.le_of_ble_eq_true rfl) (Nat.le_of_ble_eq_true rfl) ?_
              cases hd; exact am_ret ok_Mo_count rfl (Nat.le_of_ble_eq_true rfl) (Nat.le_of_ble_eq_true rfl) ⟨rfl, rfl⟩
            exact ar_tswk ok_Mo_count rfl hc171 (by decide +kernel) rfl rfl (Nat.le_of_ble_eq_true rfl) (Nat.le_of_ble_eq_true rfl) KT172
          rw [if_neg hc171] at hd
          by_cases hc174 : a = 9
          · rw [if_pos hc174] at hd
            have KT175 : am_S am_Pr none 1 23 0 0 94 (145, [some (.ref 22), some (.int a)], [], h0, 0, 0) (am_is (some (.int q)) h0) := by
              refine am_steps ok_Mo_count 1 (x' := (146, [some (.ref 22), some (.int a)], [.ref 22], h0, 0, 0)) rfl (Nat.le_of_ble_eq_true rfl) (Nat.le_of_ble_eq_true rfl) ?_
              refine mr_get ok_Mo_count rfl hM (v := .int (s.1 59)) rfl (pc' := 149) rfl (Nat.le_of_ble_eq_true rfl) (Nat.le_of_ble_eq_true rfl) ?_
              cases hd; exact am_ret ok_Mo_count rfl (Nat.le_of_ble_eq_true rfl) (Nat.le_of_ble_eq_true rfl) ⟨rfl, rfl⟩
            exact ar_tswk ok_Mo_count rfl hc174 (by decide +kernel) rfl rfl (Nat.le_of_ble_eq_true rfl) (Nat.le_of_ble_eq_true rfl) KT175
          rw [if_neg hc174] at hd
          have KT177 : am_S am_Pr none 1 23 0 0 94 (150, [some (.ref 22), some (.int a)], [], h0, 0, 0) (am_is (some (.int q)) h0) := by
            refine am_steps ok_Mo_count 1 (x' := (151, [some (.ref 22), some (.int a)], [.int (-1)], h0, 0, 0)) rfl (Nat.le_of_ble_eq_true rfl) (Nat.le_of_ble_eq_true rfl) ?_
            cases hd; exact am_ret ok_Mo_count rfl (Nat.le_of_ble_eq_true rfl) (Nat.le_of_ble_eq_true rfl) ⟨rfl, rfl⟩
          have ho182 : a.toInt < 0 ∨ 9 < a.toInt := tsw_out (fun c179 h180 h181 e178 => by
            have c179x : c179 = 0 ∨ c179 = 1 ∨ c179 = 2 ∨ c179 = 3 ∨ c179 = 4 ∨ c179 = 5 ∨ c179 = 6 ∨ c179 = 7 ∨ c179 = 8 ∨ c179 = 9 := by omega
            rcases c179x with rfl | rfl | rfl | rfl | rfl | rfl | rfl | rfl | rfl | rfl
            · exact hc124 e178
            · exact hc128 e178
            · exact hc131 e178
            · exact hc134 e178
            · exact hc137 e178
            · exact hc140 e178
            · exact hc154 e178
            · exact hc168 e178
            · exact hc171 e178
            · exact hc174 e178)
          exact ar_tsw ok_Mo_count rfl ho182 rfl (Nat.le_of_ble_eq_true rfl) (Nat.le_of_ble_eq_true rfl) KT177
        · rw [if_neg hc123] at hd
          refine am_steps ok_Mo_count 1 (x' := (24, [some (.ref 22), some (.int a)], [.int 0], h0, 0, 0)) rfl (Nat.le_of_ble_eq_true rfl) (Nat.le_of_ble_eq_true rfl) ?_
          cases hd; exact am_ret ok_Mo_count rfl (Nat.le_of_ble_eq_true rfl) (Nat.le_of_ble_eq_true rfl) ⟨rfl, rfl⟩
def d_Mo_broken  (s : mS) : Option (Int32) := some (s.1 61)
set_option maxHeartbeats 4000000 in
set_option maxRecDepth 100000 in
theorem k_Mo_broken  (s : mS) (h0 : am_H) (hM : RM s h0) (q : Int32) (hd : d_Mo_broken  s = some q) : am_Me am_Pr none 0 0 0 0 95 [.ref 22] h0 (am_is (some (.int q)) h0) := by
  refine am_enter (d := hd_Mo_broken) rfl (by decide +kernel) (Nat.le_of_ble_eq_true rfl) ?_
  show am_S _ _ _ _ _ _ _ (0, [some (.ref 22)], [], h0, 0, 0) _
  unfold d_Mo_broken at hd
  refine am_steps ok_Mo_broken 1 (x' := (1, [some (.ref 22)], [.ref 22], h0, 0, 0)) rfl (Nat.le_of_ble_eq_true rfl) (Nat.le_of_ble_eq_true rfl) ?_
  refine mr_get ok_Mo_broken rfl hM (v := .int (s.1 61)) rfl (pc' := 4) rfl (Nat.le_of_ble_eq_true rfl) (Nat.le_of_ble_eq_true rfl) ?_
  cases hd; exact am_ret ok_Mo_broken rfl (Nat.le_of_ble_eq_true rfl) (Nat.le_of_ble_eq_true rfl) ⟨rfl, rfl⟩
