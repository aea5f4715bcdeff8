/-! Methods of the class as functions of its state. -/
def h_As_worth (a : Int64) (b : Int64) (c : Int32) : Option (Int64) := if ((lg_cmp ((b * (Int32.toInt64 (100 - c))) / (Int64.ofNat 100)) 0) : Int32) ≤ 0 then (if ((lg_cmp (((a * ((b * (Int32.toInt64 (100 - c))) / (Int64.ofNat 100))) + ((a / (Int64.ofNat 100)) * ((b * (Int32.toInt64 (100 - c))) - (b * (Int32.toInt64 (100 - c))) / (Int64.ofNat 100) * (Int64.ofNat 100)))) + (((a - a / (Int64.ofNat 100) * (Int64.ofNat 100)) * ((b * (Int32.toInt64 (100 - c))) - (b * (Int32.toInt64 (100 - c))) / (Int64.ofNat 100) * (Int64.ofNat 100))) / (Int64.ofNat 100))) (Int64.ofNat 4000000000000000000)) : Int32) ≤ 0 then (some (((a * ((b * (Int32.toInt64 (100 - c))) / (Int64.ofNat 100))) + ((a / (Int64.ofNat 100)) * ((b * (Int32.toInt64 (100 - c))) - (b * (Int32.toInt64 (100 - c))) / (Int64.ofNat 100) * (Int64.ofNat 100)))) + (((a - a / (Int64.ofNat 100) * (Int64.ofNat 100)) * ((b * (Int32.toInt64 (100 - c))) - (b * (Int32.toInt64 (100 - c))) / (Int64.ofNat 100) * (Int64.ofNat 100))) / (Int64.ofNat 100)))) else (some (Int64.ofNat 4000000000000000001))) else (if ((b * (Int32.toInt64 (100 - c))) / (Int64.ofNat 100)) = 0 then none else (if ((lg_cmp a ((Int64.ofNat 4000000000000000000) / ((b * (Int32.toInt64 (100 - c))) / (Int64.ofNat 100)))) : Int32) ≤ 0 then (if ((lg_cmp (((a * ((b * (Int32.toInt64 (100 - c))) / (Int64.ofNat 100))) + ((a / (Int64.ofNat 100)) * ((b * (Int32.toInt64 (100 - c))) - (b * (Int32.toInt64 (100 - c))) / (Int64.ofNat 100) * (Int64.ofNat 100)))) + (((a - a / (Int64.ofNat 100) * (Int64.ofNat 100)) * ((b * (Int32.toInt64 (100 - c))) - (b * (Int32.toInt64 (100 - c))) / (Int64.ofNat 100) * (Int64.ofNat 100))) / (Int64.ofNat 100))) (Int64.ofNat 4000000000000000000)) : Int32) ≤ 0 then (some (((a * ((b * (Int32.toInt64 (100 - c))) / (Int64.ofNat 100))) + ((a / (Int64.ofNat 100)) * ((b * (Int32.toInt64 (100 - c))) - (b * (Int32.toInt64 (100 - c))) / (Int64.ofNat 100) * (Int64.ofNat 100)))) + (((a - a / (Int64.ofNat 100) * (Int64.ofNat 100)) * ((b * (Int32.toInt64 (100 - c))) - (b * (Int32.toInt64 (100 - c))) / (Int64.ofNat 100) * (Int64.ofNat 100))) / (Int64.ofNat 100)))) else (some (Int64.ofNat 4000000000000000001))) else (some (Int64.ofNat 4000000000000000001))))
set_option maxHeartbeats 4000000 in
set_option maxRecDepth 100000 in
theorem c_As_worth (a : Int64) (b : Int64) (c : Int32) (h0 : am_H) (q : Int64) (hd : h_As_worth a b c = some q) : am_Me am_Pr none 0 0 0 0 106 [.long a, .long b, .int c] h0 (am_is (some (.long q)) h0) := by
  refine am_enter (d := hd_As_worth) rfl (by decide +kernel) (Nat.le_of_ble_eq_true rfl) ?_
  show am_S _ _ _ _ _ _ _ (0, [some (.long a), none, some (.long b), none, some (.int c), none, none, none, none, none, none, none, none], [], h0, 0, 0) _
  unfold h_As_worth at hd
  refine am_steps ok_As_worth 9 (x' := (15, [some (.long a), none, some (.long b), none, some (.int c), some (.long (b * (Int32.toInt64 (100 - c)))), none, none, none, none, none, none, none], [.long (Int64.ofNat 100), .long (b * (Int32.toInt64 (100 - c)))], h0, 0, 0)) rfl (Nat.le_of_ble_eq_true rfl) (Nat.le_of_ble_eq_true rfl) ?_
  refine ar_ldiv ok_As_worth rfl (by decide +kernel) (w := ((b * (Int32.toInt64 (100 - c))) / (Int64.ofNat 100))) rfl (pc' := 16) rfl (Nat.le_of_ble_eq_true rfl) (Nat.le_of_ble_eq_true rfl) ?_
  refine am_steps ok_As_worth 3 (x' := (23, [some (.long a), none, some (.long b), none, some (.int c), some (.long (b * (Int32.toInt64 (100 - c)))), none, some (.long ((b * (Int32.toInt64 (100 - c))) / (Int64.ofNat 100))), none, none, none, none, none], [.long (Int64.ofNat 100), .long (b * (Int32.toInt64 (100 - c)))], h0, 0, 0)) rfl (Nat.le_of_ble_eq_true rfl) (Nat.le_of_ble_eq_true rfl) ?_
  refine ar_lrem ok_As_worth rfl (by decide +kernel) (w := ((b * (Int32.toInt64 (100 - c))) - (b * (Int32.toInt64 (100 - c))) / (Int64.ofNat 100) * (Int64.ofNat 100))) rfl (pc' := 24) rfl (Nat.le_of_ble_eq_true rfl) (Nat.le_of_ble_eq_true rfl) ?_
  refine am_steps ok_As_worth 5 (x' := (if ((lg_cmp ((b * (Int32.toInt64 (100 - c))) / (Int64.ofNat 100)) 0) : Int32) ≤ 0 then 48 else 33, [some (.long a), none, some (.long b), none, some (.int c), some (.long (b * (Int32.toInt64 (100 - c)))), none, some (.long ((b * (Int32.toInt64 (100 - c))) / (Int64.ofNat 100))), none, some (.long ((b * (Int32.toInt64 (100 - c))) - (b * (Int32.toInt64 (100 - c))) / (Int64.ofNat 100) * (Int64.ofNat 100))), none, none, none], [], h0, 0, 0)) rfl (Nat.le_of_ble_eq_true rfl) (Nat.le_of_ble_eq_true rfl) ?_
  refine am_if (fun hc1 => ?_) (fun hc1 => ?_)
  · rw [if_pos hc1] at hd
    refine am_steps ok_As_worth 5 (x' := (56, [some (.long a), none, some (.long b), none, some (.int c), some (.long (b * (Int32.toInt64 (100 - c)))), none, some (.long ((b * (Int32.toInt64 (100 - c))) / (Int64.ofNat 100))), none, some (.long ((b * (Int32.toInt64 (100 - c))) - (b * (Int32.toInt64 (100 - c))) / (Int64.ofNat 100) * (Int64.ofNat 100))), none, none, none], [.long (Int64.ofNat 100), .long a, .long (a * ((b * (Int32.toInt64 (100 - c))) / (Int64.ofNat 100)))], h0, 0, 0)) rfl (Nat.le_of_ble_eq_true rfl) (Nat.le_of_ble_eq_true rfl) ?_
    refine ar_ldiv ok_As_worth rfl (by decide +kernel) (w := (a / (Int64.ofNat 100))) rfl (pc' := 57) rfl (Nat.le_of_ble_eq_true rfl) (Nat.le_of_ble_eq_true rfl) ?_
    refine am_steps ok_As_worth 5 (x' := (65, [some (.long a), none, some (.long b), none, some (.int c), some (.long (b * (Int32.toInt64 (100 - c)))), none, some (.long ((b * (Int32.toInt64 (100 - c))) / (Int64.ofNat 100))), none, some (.long ((b * (Int32.toInt64 (100 - c))) - (b * (Int32.toInt64 (100 - c))) / (Int64.ofNat 100) * (Int64.ofNat 100))), none, none, none], [.long (Int64.ofNat 100), .long a, .long ((a * ((b * (Int32.toInt64 (100 - c))) / (Int64.ofNat 100))) + ((a / (Int64.ofNat 100)) * ((b * (Int32.toInt64 (100 - c))) - (b * (Int32.toInt64 (100 - c))) / (Int64.ofNat 100) * (Int64.ofNat 100))))], h0, 0, 0)) rfl (Nat.le_of_ble_eq_true rfl) (Nat.le_of_ble_eq_true rfl) ?_
    refine ar_lrem ok_As_worth rfl (by decide +kernel) (w := (a - a / (Int64.ofNat 100) * (Int64.ofNat 100))) rfl (pc' := 66) rfl (Nat.le_of_ble_eq_true rfl) (Nat.le_of_ble_eq_true rfl) ?_
    refine am_steps ok_As_worth 3 (x' := (72, [some (.long a), none, some (.long b), none, some (.int c), some (.long (b * (Int32.toInt64 (100 - c)))), none, some (.long ((b * (Int32.toInt64 (100 - c))) / (Int64.ofNat 100))), none, some (.long ((b * (Int32.toInt64 (100 - c))) - (b * (Int32.toInt64 (100 - c))) / (Int64.ofNat 100) * (Int64.ofNat 100))), none, none, none], [.long (Int64.ofNat 100), .long ((a - a / (Int64.ofNat 100) * (Int64.ofNat 100)) * ((b * (Int32.toInt64 (100 - c))) - (b * (Int32.toInt64 (100 - c))) / (Int64.ofNat 100) * (Int64.ofNat 100))), .long ((a * ((b * (Int32.toInt64 (100 - c))) / (Int64.ofNat 100))) + ((a / (Int64.ofNat 100)) * ((b * (Int32.toInt64 (100 - c))) - (b * (Int32.toInt64 (100 - c))) / (Int64.ofNat 100) * (Int64.ofNat 100))))], h0, 0, 0)) rfl (Nat.le_of_ble_eq_true rfl) (Nat.le_of_ble_eq_true rfl) ?_
    refine ar_ldiv ok_As_worth rfl (by decide +kernel) (w := (((a - a / (Int64.ofNat 100) * (Int64.ofNat 100)) * ((b * (Int32.toInt64 (100 - c))) - (b * (Int32.toInt64 (100 - c))) / (Int64.ofNat 100) * (Int64.ofNat 100))) / (Int64.ofNat 100))) rfl (pc' := 73) rfl (Nat.le_of_ble_eq_true rfl) (Nat.le_of_ble_eq_true rfl) ?_
    refine am_steps ok_As_worth 6 (x' := (if ((lg_cmp (((a * ((b * (Int32.toInt64 (100 - c))) / (Int64.ofNat 100))) + ((a / (Int64.ofNat 100)) * ((b * (Int32.toInt64 (100 - c))) - (b * (Int32.toInt64 (100 - c))) / (Int64.ofNat 100) * (Int64.ofNat 100)))) + (((a - a / (Int64.ofNat 100) * (Int64.ofNat 100)) * ((b * (Int32.toInt64 (100 - c))) - (b * (Int32.toInt64 (100 - c))) / (Int64.ofNat 100) * (Int64.ofNat 100))) / (Int64.ofNat 100))) (Int64.ofNat 4000000000000000000)) : Int32) ≤ 0 then 91 else 85, [some (.long a), none, some (.long b), none, some (.int c), some (.long (b * (Int32.toInt64 (100 - c)))), none, some (.long ((b * (Int32.toInt64 (100 - c))) / (Int64.ofNat 100))), none, some (.long ((b * (Int32.toInt64 (100 - c))) - (b * (Int32.toInt64 (100 - c))) / (Int64.ofNat 100) * (Int64.ofNat 100))), none, some (.long (((a * ((b * (Int32.toInt64 (100 - c))) / (Int64.ofNat 100))) + ((a / (Int64.ofNat 100)) * ((b * (Int32.toInt64 (100 - c))) - (b * (Int32.toInt64 (100 - c))) / (Int64.ofNat 100) * (Int64.ofNat 100)))) + (((a - a / (Int64.ofNat 100) * (Int64.ofNat 100)) * ((b * (Int32.toInt64 (100 - c))) - (b * (Int32.toInt64 (100 - c))) / (Int64.ofNat 100) * (Int64.ofNat 100))) / (Int64.ofNat 100)))), none], [], h0, 0, 0)) rfl (Nat.le_of_ble_eq_true rfl) (Nat.le_of_ble_eq_true rfl) ?_
    refine am_if (fun hc2 => ?_) (fun hc2 => ?_)
    · rw [if_pos hc2] at hd
      refine am_steps ok_As_worth 1 (x' := (93, [some (.long a), none, some (.long b), none, some (.int c), some (.long (b * (Int32.toInt64 (100 - c)))), none, some (.long ((b * (Int32.toInt64 (100 - c))) / (Int64.ofNat 100))), none, some (.long ((b * (Int32.toInt64 (100 - c))) - (b * (Int32.toInt64 (100 - c))) / (Int64.ofNat 100) * (Int64.ofNat 100))), none, some (.long (((a * ((b * (Int32.toInt64 (100 - c))) / (Int64.ofNat 100))) + ((a / (Int64.ofNat 100)) * ((b * (Int32.toInt64 (100 - c))) - (b * (Int32.toInt64 (100 - c))) / (Int64.ofNat 100) * (Int64.ofNat 100)))) + (((a - a / (Int64.ofNat 100) * (Int64.ofNat 100)) * ((b * (Int32.toInt64 (100 - c))) - (b * (Int32.toInt64 (100 - c))) / (Int64.ofNat 100) * (Int64.ofNat 100))) / (Int64.ofNat 100)))), none], [.long (((a * ((b * (Int32.toInt64 (100 - c))) / (Int64.ofNat 100))) + ((a / (Int64.ofNat 100)) * ((b * (Int32.toInt64 (100 - c))) - (b * (Int32.toInt64 (100 - c))) / (Int64.ofNat 100) * (Int64.ofNat 100)))) + (((a - a / (Int64.ofNat 100) * (Int64.ofNat 100)) * ((b * (Int32.toInt64 (100 - c))) - (b * (Int32.toInt64 (100 - c))) / (Int64.ofNat 100) * (Int64.ofNat 100))) / (Int64.ofNat 100)))], h0, 0, 0)) rfl (Nat.le_of_ble_eq_true rfl) (Nat.le_of_ble_eq_true rfl) ?_
      cases hd; exact am_ret ok_As_worth rfl (Nat.le_of_ble_eq_true rfl) (Nat.le_of_ble_eq_true rfl) ⟨rfl, rfl⟩
    · rw [if_neg hc2] at hd
      refine am_steps ok_As_worth 2 (x' := (93, [some (.long a), none, some (.long b), none, some (.int c), some (.long (b * (Int32.toInt64 (100 - c)))), none, some (.long ((b * (Int32.toInt64 (100 - c))) / (Int64.ofNat 100))), none, some (.long ((b * (Int32.toInt64 (100 - c))) - (b * (Int32.toInt64 (100 - c))) / (Int64.ofNat 100) * (Int64.ofNat 100))), none, some (.long (((a * ((b * (Int32.toInt64 (100 - c))) / (Int64.ofNat 100))) + ((a / (Int64.ofNat 100)) * ((b * (Int32.toInt64 (100 - c))) - (b * (Int32.toInt64 (100 - c))) / (Int64.ofNat 100) * (Int64.ofNat 100)))) + (((a - a / (Int64.ofNat 100) * (Int64.ofNat 100)) * ((b * (Int32.toInt64 (100 - c))) - (b * (Int32.toInt64 (100 - c))) / (Int64.ofNat 100) * (Int64.ofNat 100))) / (Int64.ofNat 100)))), none], [.long (Int64.ofNat 4000000000000000001)], h0, 0, 0)) rfl (Nat.le_of_ble_eq_true rfl) (Nat.le_of_ble_eq_true rfl) ?_
      cases hd; exact am_ret ok_As_worth rfl (Nat.le_of_ble_eq_true rfl) (Nat.le_of_ble_eq_true rfl) ⟨rfl, rfl⟩
  · rw [if_neg hc1] at hd
    refine am_steps ok_As_worth 3 (x' := (39, [some (.long a), none, some (.long b), none, some (.int c), some (.long (b * (Int32.toInt64 (100 - c)))), none, some (.long ((b * (Int32.toInt64 (100 - c))) / (Int64.ofNat 100))), none, some (.long ((b * (Int32.toInt64 (100 - c))) - (b * (Int32.toInt64 (100 - c))) / (Int64.ofNat 100) * (Int64.ofNat 100))), none, none, none], [.long ((b * (Int32.toInt64 (100 - c))) / (Int64.ofNat 100)), .long (Int64.ofNat 4000000000000000000), .long a], h0, 0, 0)) rfl (Nat.le_of_ble_eq_true rfl) (Nat.le_of_ble_eq_true rfl) ?_
    split at hd
    · cases hd
    · rename_i hne3
      refine ar_ldiv ok_As_worth rfl hne3 (w := ((Int64.ofNat 4000000000000000000) / ((b * (Int32.toInt64 (100 - c))) / (Int64.ofNat 100)))) rfl (pc' := 40) rfl (Nat.le_of_ble_eq_true rfl) (Nat.le_of_ble_eq_true rfl) ?_
      refine am_steps ok_As_worth 2 (x' := (if ((lg_cmp a ((Int64.ofNat 4000000000000000000) / ((b * (Int32.toInt64 (100 - c))) / (Int64.ofNat 100)))) : Int32) ≤ 0 then 48 else 44, [some (.long a), none, some (.long b), none, some (.int c), some (.long (b * (Int32.toInt64 (100 - c)))), none, some (.long ((b * (Int32.toInt64 (100 - c))) / (Int64.ofNat 100))), none, some (.long ((b * (Int32.toInt64 (100 - c))) - (b * (Int32.toInt64 (100 - c))) / (Int64.ofNat 100) * (Int64.ofNat 100))), none, none, none], [], h0, 0, 0)) rfl (Nat.le_of_ble_eq_true rfl) (Nat.le_of_ble_eq_true rfl) ?_
      refine am_if (fun hc4 => ?_) (fun hc4 => ?_)
      · rw [if_pos hc4] at hd
        refine am_steps ok_As_worth 5 (x' := (56, [some (.long a), none, some (.long b), none, some (.int c), some (.long (b * (Int32.toInt64 (100 - c)))), none, some (.long ((b * (Int32.toInt64 (100 - c))) / (Int64.ofNat 100))), none, some (.long ((b * (Int32.toInt64 (100 - c))) - (b * (Int32.toInt64 (100 - c))) / (Int64.ofNat 100) * (Int64.ofNat 100))), none, none, none], [.long (Int64.ofNat 100), .long a, .long (a * ((b * (Int32.toInt64 (100 - c))) / (Int64.ofNat 100)))], h0, 0, 0)) rfl (Nat.le_of_ble_eq_true rfl) (Nat.le_of_ble_eq_true rfl) ?_
        refine ar_ldiv ok_As_worth rfl (by decide +kernel) (w := (a / (Int64.ofNat 100))) rfl (pc' := 57) rfl (Nat.le_of_ble_eq_true rfl) (Nat.le_of_ble_eq_true rfl) ?_
        refine am_steps ok_As_worth 5 (x' := (65, [some (.long a), none, some (.long b), none, some (.int c), some (.long (b * (Int32.toInt64 (100 - c)))), none, some (.long ((b * (Int32.toInt64 (100 - c))) / (Int64.ofNat 100))), none, some (.long ((b * (Int32.toInt64 (100 - c))) - (b * (Int32.toInt64 (100 - c))) / (Int64.ofNat 100) * (Int64.ofNat 100))), none, none, none], [.long (Int64.ofNat 100), .long a, .long ((a * ((b * (Int32.toInt64 (100 - c))) / (Int64.ofNat 100))) + ((a / (Int64.ofNat 100)) * ((b * (Int32.toInt64 (100 - c))) - (b * (Int32.toInt64 (100 - c))) / (Int64.ofNat 100) * (Int64.ofNat 100))))], h0, 0, 0)) rfl (Nat.le_of_ble_eq_true rfl) (Nat.le_of_ble_eq_true rfl) ?_
        refine ar_lrem ok_As_worth rfl (by decide +kernel) (w := (a - a / (Int64.ofNat 100) * (Int64.ofNat 100))) rfl (pc' := 66) rfl (Nat.le_of_ble_eq_true rfl) (Nat.le_of_ble_eq_true rfl) ?_
        refine am_steps ok_As_worth 3 (x' := (72, [some (.long a), none, some (.long b), none, some (.int c), some (.long (b * (Int32.toInt64 (100 - c)))), none, some (.long ((b * (Int32.toInt64 (100 - c))) / (Int64.ofNat 100))), none, some (.long ((b * (Int32.toInt64 (100 - c))) - (b * (Int32.toInt64 (100 - c))) / (Int64.ofNat 100) * (Int64.ofNat 100))), none, none, none], [.long (Int64.ofNat 100), .long ((a - a / (Int64.ofNat 100) * (Int64.ofNat 100)) * ((b * (Int32.toInt64 (100 - c))) - (b * (Int32.toInt64 (100 - c))) / (Int64.ofNat 100) * (Int64.ofNat 100))), .long ((a * ((b * (Int32.toInt64 (100 - c))) / (Int64.ofNat 100))) + ((a / (Int64.ofNat 100)) * ((b * (Int32.toInt64 (100 - c))) - (b * (Int32.toInt64 (100 - c))) / (Int64.ofNat 100) * (Int64.ofNat 100))))], h0, 0, 0)) rfl (Nat.le_of_ble_eq_true rfl) (Nat.le_of_ble_eq_true rfl) ?_
        refine ar_ldiv ok_As_worth rfl (by decide +kernel) (w := (((a - a / (Int64.ofNat 100) * (Int64.ofNat 100)) * ((b * (Int32.toInt64 (100 - c))) - (b * (Int32.toInt64 (100 - c))) / (Int64.ofNat 100) * (Int64.ofNat 100))) / (Int64.ofNat 100))) rfl (pc' := 73) rfl (Nat.le_of_ble_eq_true rfl) (Nat.le_of_ble_eq_true rfl) ?_
        refine am_steps ok_As_worth 6 (x' := (if ((lg_cmp (((a * ((b * (Int32.toInt64 (100 - c))) / (Int64.ofNat 100))) + ((a / (Int64.ofNat 100)) * ((b * (Int32.toInt64 (100 - c))) - (b * (Int32.toInt64 (100 - c))) / (Int64.ofNat 100) * (Int64.ofNat 100)))) + (((a - a / (Int64.ofNat 100) * (Int64.ofNat 100)) * ((b * (Int32.toInt64 (100 - c))) - (b * (Int32.toInt64 (100 - c))) / (Int64.ofNat 100) * (Int64.ofNat 100))) / (Int64.ofNat 100))) (Int64.ofNat 4000000000000000000)) : Int32) ≤ 0 then 91 else 85, [some (.long a), none, some (.long b), none, some (.int c), some (.long (b * (Int32.toInt64 (100 - c)))), none, some (.long ((b * (Int32.toInt64 (100 - c))) / (Int64.ofNat 100))), none, some (.long ((b * (Int32.toInt64 (100 - c))) - (b * (Int32.toInt64 (100 - c))) / (Int64.ofNat 100) * (Int64.ofNat 100))), none, some (.long (((a * ((b * (Int32.toInt64 (100 - c))) / (Int64.ofNat 100))) + ((a / (Int64.ofNat 100)) * ((b * (Int32.toInt64 (100 - c))) - (b * (Int32.toInt64 (100 - c))) / (Int64.ofNat 100) * (Int64.ofNat 100)))) + (((a - a / (Int64.ofNat 100) * (Int64.ofNat 100)) * ((b * (Int32.toInt64 (100 - c))) - (b * (Int32.toInt64 (100 - c))) / (Int64.ofNat 100) * (Int64.ofNat 100))) / (Int64.ofNat 100)))), none], [], h0, 0, 0)) rfl (Nat.le_of_ble_eq_true rfl) (Nat.le_of_ble_eq_true rfl) ?_
        refine am_if (fun hc5 => ?_) (fun hc5 => ?_)
        · rw [if_pos hc5] at hd
          refine am_steps ok_As_worth 1 (x' := (93, [some (.long a), none, some (.long b), none, some (.int c), some (.long (b * (Int32.toInt64 (100 - c)))), none, some (.long ((b * (Int32.toInt64 (100 - c))) / (Int64.ofNat 100))), none, some (.long ((b * (Int32.toInt64 (100 - c))) - (b * (Int32.toInt64 (100 - c))) / (Int64.ofNat 100) * (Int64.ofNat 100))), none, some (.long (((a * ((b * (Int32.toInt64 (100 - c))) / (Int64.ofNat 100))) + ((a / (Int64.ofNat 100)) * ((b * (Int32.toInt64 (100 - c))) - (b * (Int32.toInt64 (100 - c))) / (Int64.ofNat 100) * (Int64.ofNat 100)))) + (((a - a / (Int64.ofNat 100) * (Int64.ofNat 100)) * ((b * (Int32.toInt64 (100 - c))) - (b * (Int32.toInt64 (100 - c))) / (Int64.ofNat 100) * (Int64.ofNat 100))) / (Int64.ofNat 100)))), none], [.long (((a * ((b * (Int32.toInt64 (100 - c))) / (Int64.ofNat 100))) + ((a / (Int64.ofNat 100)) * ((b * (Int32.toInt64 (100 - c))) - (b * (Int32.toInt64 (100 - c))) / (Int64.ofNat 100) * (Int64.ofNat 100)))) + (((a - a / (Int64.ofNat 100) * (Int64.ofNat 100)) * ((b * (Int32.toInt64 (100 - c))) - (b * (Int32.toInt64 (100 - c))) / (Int64.ofNat 100) * (Int64.ofNat 100))) / (Int64.ofNat 100)))], h0, 0, 0)) rfl (Nat.le_of_ble_eq_true rfl) (Nat.le_of_ble_eq_true rfl) ?_
          cases hd; exact am_ret ok_As_worth rfl (Nat.le_of_ble_eq_true rfl) (Nat.le_of_ble_eq_true rfl) ⟨rfl, rfl⟩
        · rw [if_neg hc5] at hd
          refine am_steps ok_As_worth 2 (x' := (93, [some (.long a), none, some (.long b), none, some (.int c), some (.long (b * (Int32.toInt64 (100 - c)))), none, some (.long ((b * (Int32.toInt64 (100 - c))) / (Int64.ofNat 100))), none, some (.long ((b * (Int32.toInt64 (100 - c))) - (b * (Int32.toInt64 (100 - c))) / (Int64.ofNat 100) * (Int64.ofNat 100))), none, some (.long (((a * ((b * (Int32.toInt64 (100 - c))) / (Int64.ofNat 100))) + ((a / (Int64.ofNat 100)) * ((b * (Int32.toInt64 (100 - c))) - (b * (Int32.toInt64 (100 - c))) / (Int64.ofNat 100) * (Int64.ofNat 100)))) + (((a - a / (Int64.ofNat 100) * (Int64.ofNat 100)) * ((b * (Int32.toInt64 (100 - c))) - (b * (Int32.toInt64 (100 - c))) / (Int64.ofNat 100) * (Int64.ofNat 100))) / (Int64.ofNat 100)))), none], [.long (Int64.ofNat 4000000000000000001)], h0, 0, 0)) rfl (Nat.le_of_ble_eq_true rfl) (Nat.le_of_ble_eq_true rfl) ?_
          cases hd; exact am_ret ok_As_worth rfl (Nat.le_of_ble_eq_true rfl) (Nat.le_of_ble_eq_true rfl) ⟨rfl, rfl⟩
      · rw [if_neg hc4] at hd
        refine am_steps ok_As_worth 1 (x' := (47, [some (.long a), none, some (.long b), none, some (.int c), some (.long (b * (Int32.toInt64 (100 - c)))), none, some (.long ((b * (Int32.toInt64 (100 - c))) / (Int64.ofNat 100))), none, some (.long ((b * (Int32.toInt64 (100 - c))) - (b * (Int32.toInt64 (100 - c))) / (Int64.ofNat 100) * (Int64.ofNat 100))), none, none, none], [.long (Int64.ofNat 4000000000000000001)], h0, 0, 0)) rfl (Nat.le_of_ble_eq_true rfl) (Nat.le_of_ble_eq_true rfl) ?_
        cases hd; exact am_ret ok_As_worth rfl (Nat.le_of_ble_eq_true rfl) (Nat.le_of_ble_eq_true rfl) ⟨rfl, rfl⟩
def h_Bo_creditIfPriced (a : Int32) (b : Int32) (c : Int64) (d : Int32) (S : hS) : Option (Int64) := (am_ix b 64).bind fun j1 => ((h_Bo_pledgedOf a b S).bind fun q4 => (((S.2.2.2.2.2.2 12 j1)).bind fun b12 => ((h_As_worth q4 (S.2.2.1 302 b12) (S.2.1 303 b12)).bind fun q16 => ((am_ix a 256).bind fun j24 => (((S.2.2.2.2.2.2 11 j24)).bind fun b27 => ((h_As_worth q4 c d).bind fun q31 => (some (((S.2.2.1 904 b27) - q16) + q31))))))))
set_option maxHeartbeats 4000000 in
set_option maxRecDepth 100000 in
theorem c_Bo_creditIfPriced (a : Int32) (b : Int32) (c : Int64) (d : Int32) (S : hS) (h0 : am_H) (hR : RH S h0)  (q : Int64) (hd : h_Bo_creditIfPriced a b c d S = some q) : am_Me am_Pr none 1 32 0 0 121 [.ref 10, .int a, .int b, .long c, .int d] h0 (am_is (some (.long q)) h0) := by
  refine am_enter (d := hd_Bo_creditIfPriced) rfl (by decide +kernel) (Nat.le_of_ble_eq_true rfl) ?_
  show am_S _ _ _ _ _ _ _ (0, [some (.ref 10), some (.int a), some (.int b), some (.long c), none, some (.int d), none, none, none, none, none], [], h0, 0, 0) _
  unfold h_Bo_creditIfPriced at hd
  refine am_steps ok_Bo_creditIfPriced 1 (x' := (1, [some (.ref 10), some (.int a), some (.int b), some (.long c), none, some (.int d), none, none, none, none, none], [.ref 10], h0, 0, 0)) rfl (Nat.le_of_ble_eq_true rfl) (Nat.le_of_ble_eq_true rfl) ?_
  refine hr_get ok_Bo_creditIfPriced rfl hR (kd := 4) (hs_k hR (a := 10) rfl) rfl (Nat.le_of_ble_eq_true rfl) (Nat.le_of_ble_eq_true rfl) (v := .ref 12) (congrArg va_rf (hR.2.2.2.2.1 (402, 10, 12) (by decide))) (pc' := 4) rfl (Nat.le_of_ble_eq_true rfl) (Nat.le_of_ble_eq_true rfl) ?_
  refine am_steps ok_Bo_creditIfPriced 1 (x' := (5, [some (.ref 10), some (.int a), some (.int b), some (.long c), none, some (.int d), none, none, none, none, none], [.int b, .ref 12], h0, 0, 0)) rfl (Nat.le_of_ble_eq_true rfl) (Nat.le_of_ble_eq_true rfl) ?_
  obtain ⟨j1, hx2, hd3⟩ := Option.bind_eq_some_iff.mp hd; clear hd; have hd := hd3; clear hd3
  refine hr_aald ok_Bo_creditIfPriced rfl hR (kd := 25) (hs_k hR (a := 12) rfl) (by decide) (hs_ln hR rfl) hx2 (pc' := 6) rfl (Nat.le_of_ble_eq_true rfl) (Nat.le_of_ble_eq_true rfl) ?_
  refine hr_astore ok_Bo_creditIfPriced rfl (Nat.le_of_ble_eq_true rfl) (lo' := [some (.ref 10), some (.int a), some (.int b), some (.long c), none, some (.int d), some (va_rf (S.2.2.2.2.2.2 12 j1)), none, none, none, none]) rfl (pc' := 8) rfl (Nat.le_of_ble_eq_true rfl) (Nat.le_of_ble_eq_true rfl) ?_
  refine am_steps ok_Bo_creditIfPriced 3 (x' := (11, [some (.ref 10), some (.int a), some (.int b), some (.long c), none, some (.int d), some (va_rf (S.2.2.2.2.2.2 12 j1)), none, none, none, none], [.int b, .int a, .ref 10], h0, 0, 0)) rfl (Nat.le_of_ble_eq_true rfl) (Nat.le_of_ble_eq_true rfl) ?_
  obtain ⟨q4, hq5, hd6⟩ := Option.bind_eq_some_iff.mp hd; clear hd; have hd := hd6; clear hd6
  refine ar_cv ok_Bo_creditIfPriced hk_Bo_pledgedOf rfl rfl (As := [.int a, .int b]) (ad := 10) (rest := []) rfl rfl (hR.ob (hs_k hR (a := 10) rfl) (Nat.le_of_ble_eq_true rfl)) (Nat.le_of_ble_eq_true rfl) (c_Bo_pledgedOf a b S h0 hR  q4 hq5) (Nat.le_of_ble_eq_true rfl) (Nat.le_of_ble_eq_true rfl) (Nat.le_of_ble_eq_true rfl) (Nat.le_of_ble_eq_true rfl) (pc' := 14) rfl (fun r7 h9 z8 => ?_)
  obtain ⟨rfl, z11⟩ := z8; rw [z11]
  show am_S _ _ _ _ _ _ _ (14, [some (.ref 10), some (.int a), some (.int b), some (.long c), none, some (.int d), some (va_rf (S.2.2.2.2.2.2 12 j1)), none, none, none, none], [.long q4], h0, 0, 0) _
  refine hr_p1 ok_Bo_creditIfPriced rfl (y := (16, [some (.ref 10), some (.int a), some (.int b), some (.long c), none, some (.int d), some (va_rf (S.2.2.2.2.2.2 12 j1)), some (.long q4), none, none, none], [])) (by generalize (S.2.2.2.2.2.2 12 j1) = o; cases o <;> rfl) (Nat.le_of_ble_eq_true rfl) (Nat.le_of_ble_eq_true rfl) ?_
  refine am_steps ok_Bo_creditIfPriced 1 (x' := (18, [some (.ref 10), some (.int a), some (.int b), some (.long c), none, some (.int d), some (va_rf (S.2.2.2.2.2.2 12 j1)), some (.long q4), none, none, none], [.long q4], h0, 0, 0)) rfl (Nat.le_of_ble_eq_true rfl) (Nat.le_of_ble_eq_true rfl) ?_
  refine hr_aload ok_Bo_creditIfPriced rfl rfl (pc' := 20) rfl (Nat.le_of_ble_eq_true rfl) (Nat.le_of_ble_eq_true rfl) ?_
  obtain ⟨b12, hb13, hd14⟩ := Option.bind_eq_some_iff.mp hd; clear hd; have hd := hd14; clear hd14
  have hk15 := (fun b hb => hR.2.2.2.1 _ _ (hK.ln (hs_k hR (a := 12) rfl)) _ b hb) b12 hb13
  rw [hb13]
  show am_S _ _ _ _ _ _ _ (20, [some (.ref 10), some (.int a), some (.int b), some (.long c), none, some (.int d), some (.ref b12), some (.long q4), none, none, none], [.ref b12, .long q4], h0, 0, 0) _
  refine hr_get ok_Bo_creditIfPriced rfl hR (kd := 3) hk15 rfl (Nat.le_of_ble_eq_true rfl) (Nat.le_of_ble_eq_true rfl) (v := .long (S.2.2.1 302 b12)) rfl (pc' := 23) rfl (Nat.le_of_ble_eq_true rfl) (Nat.le_of_ble_eq_true rfl) ?_
  refine am_steps ok_Bo_creditIfPriced 1 (x' := (25, [some (.ref 10), some (.int a), some (.int b), some (.long c), none, some (.int d), some (.ref b12), some (.long q4), none, none, none], [.ref b12, .long (S.2.2.1 302 b12), .long q4], h0, 0, 0)) rfl (Nat.le_of_ble_eq_true rfl) (Nat.le_of_ble_eq_true rfl) ?_
  refine hr_get ok_Bo_creditIfPriced rfl hR (kd := 3) hk15 rfl (Nat.le_of_ble_eq_true rfl) (Nat.le_of_ble_eq_true rfl) (v := .int (S.2.1 303 b12)) rfl (pc' := 28) rfl (Nat.le_of_ble_eq_true rfl) (Nat.le_of_ble_eq_true rfl) ?_
  obtain ⟨q16, hq17, hd18⟩ := Option.bind_eq_some_iff.mp hd; clear hd; have hd := hd18; clear hd18
  refine am_call ok_Bo_creditIfPriced hk_As_worth rfl (args' := [.long q4, .long (S.2.2.1 302 b12), .int (S.2.1 303 b12)]) (rest := []) rfl (c_As_worth q4 (S.2.2.1 302 b12) (S.2.1 303 b12) h0 q16 hq17) (Nat.le_of_ble_eq_true rfl) (Nat.le_of_ble_eq_true rfl) (Nat.le_of_ble_eq_true rfl) (Nat.le_of_ble_eq_true rfl) (fun r19 h21 z20 => ?_)
  obtain ⟨rfl, z23⟩ := z20; rw [z23]
  show am_S _ _ _ _ _ _ _ (31, [some (.ref 10), some (.int a), some (.int b), some (.long c), none, some (.int d), some (.ref b12), some (.long q4), none, none, none], [.long q16], h0, 0, 0) _
  refine am_steps ok_Bo_creditIfPriced 2 (x' := (34, [some (.ref 10), some (.int a), some (.int b), some (.long c), none, some (.int d), some (.ref b12), some (.long q4), none, some (.long q16), none], [.ref 10], h0, 0, 0)) rfl (Nat.le_of_ble_eq_true rfl) (Nat.le_of_ble_eq_true rfl) ?_
  refine hr_get ok_Bo_creditIfPriced rfl hR (kd := 4) (hs_k hR (a := 10) rfl) rfl (Nat.le_of_ble_eq_true rfl) (Nat.le_of_ble_eq_true rfl) (v := .ref 11) (congrArg va_rf (hR.2.2.2.2.1 (400, 10, 11) (by decide))) (pc' := 37) rfl (Nat.le_of_ble_eq_true rfl) (Nat.le_of_ble_eq_true rfl) ?_
  refine am_steps ok_Bo_creditIfPriced 1 (x' := (38, [some (.ref 10), some (.int a), some (.int b), some (.long c), none, some (.int d), some (.ref b12), some (.long q4), none, some (.long q16), none], [.int a, .ref 11], h0, 0, 0)) rfl (Nat.le_of_ble_eq_true rfl) (Nat.le_of_ble_eq_true rfl) ?_
  obtain ⟨j24, hx25, hd26⟩ := Option.bind_eq_some_iff.mp hd; clear hd; have hd := hd26; clear hd26
  refine hr_aald ok_Bo_creditIfPriced rfl hR (kd := 24) (hs_k hR (a := 11) rfl) (by decide) (hs_ln hR rfl) hx25 (pc' := 39) rfl (Nat.le_of_ble_eq_true rfl) (Nat.le_of_ble_eq_true rfl) ?_
  obtain ⟨b27, hb28, hd29⟩ := Option.bind_eq_some_iff.mp hd; clear hd; have hd := hd29; clear hd29
  have hk30 := (fun b hb => hR.2.2.2.1 _ _ (hK.ln (hs_k hR (a := 11) rfl)) _ b hb) b27 hb28
  rw [hb28]
  show am_S _ _ _ _ _ _ _ (39, [some (.ref 10), some (.int a), some (.int b), some (.long c), none, some (.int d), some (.ref b12), some (.long q4), none, some (.long q16), none], [.ref b27], h0, 0, 0) _
  refine hr_get ok_Bo_creditIfPriced rfl hR (kd := 9) hk30 rfl (Nat.le_of_ble_eq_true rfl) (Nat.le_of_ble_eq_true rfl) (v := .long (S.2.2.1 904 b27)) rfl (pc' := 42) rfl (Nat.le_of_ble_eq_true rfl) (Nat.le_of_ble_eq_true rfl) ?_
  refine am_steps ok_Bo_creditIfPriced 5 (x' := (50, [some (.ref 10), some (.int a), some (.int b), some (.long c), none, some (.int d), some (.ref b12), some (.long q4), none, some (.long q16), none], [.int d, .long c, .long q4, .long ((S.2.2.1 904 b27) - q16)], h0, 0, 0)) rfl (Nat.le_of_ble_eq_true rfl) (Nat.le_of_ble_eq_true rfl) ?_
  obtain ⟨q31, hq32, hd33⟩ := Option.bind_eq_some_iff.mp hd; clear hd; have hd := hd33; clear hd33
  refine am_call ok_Bo_creditIfPriced hk_As_worth rfl (args' := [.long q4, .long c, .int d]) (rest := [.long ((S.2.2.1 904 b27) - q16)]) rfl (c_As_worth q4 c d h0 q31 hq32) (Nat.le_of_ble_eq_true rfl) (Nat.le_of_ble_eq_true rfl) (Nat.le_of_ble_eq_true rfl) (Nat.le_of_ble_eq_true rfl) (fun r34 h36 z35 => ?_)
  obtain ⟨rfl, z38⟩ := z35; rw [z38]
  show am_S _ _ _ _ _ _ _ (53, [some (.ref 10), some (.int a), some (.int b), some (.long c), none, some (.int d), some (.ref b12), some (.long q4), none, some (.long q16), none], [.long q31, .long ((S.2.2.1 904 b27) - q16)], h0, 0, 0) _
  refine am_steps ok_Bo_creditIfPriced 1 (x' := (54, [some (.ref 10), some (.int a), some (.int b), some (.long c), none, some (.int d), some (.ref b12), some (.long q4), none, some (.long q16), none], [.long (((S.2.2.1 904 b27) - q16) + q31)], h0, 0, 0)) rfl (Nat.le_of_ble_eq_true rfl) (Nat.le_of_ble_eq_true rfl) ?_
  cases hd; exact am_ret ok_Bo_creditIfPriced rfl (Nat.le_of_ble_eq_true rfl) (Nat.le_of_ble_eq_true rfl) ⟨rfl, rfl⟩
def h_Bo_levelOf (a : Int32) (b : Int32) (S : hS) : Option (Int64) := (am_ix a 256).bind fun j1 => (((S.2.2.2.2.2.2 11 j1)).bind fun b4 => (((S.2.2.2.1 902 b4)).bind fun b8 => ((am_ix b (hln S.1 b8)).bind fun j12 => (if (S.2.2.2.2.2.2 b8 j12) = none then (some 0) else (((S.2.2.2.2.2.2 b8 j12)).bind fun b16 => (some (S.2.2.1 1001 b16)))))))
set_option maxHeartbeats 4000000 in
set_option maxRecDepth 100000 in
theorem c_Bo_levelOf (a : Int32) (b : Int32) (S : hS) (h0 : am_H) (hR : RH S h0)  (q : Int64) (hd : h_Bo_levelOf a b S = some q) : am_Me am_Pr none 0 0 0 0 112 [.ref 10, .int a, .int b] h0 (am_is (some (.long q)) h0) := by
  refine am_enter (d := hd_Bo_levelOf) rfl (by decide +kernel) (Nat.le_of_ble_eq_true rfl) ?_
  show am_S _ _ _ _ _ _ _ (0, [some (.ref 10), some (.int a), some (.int b), none], [], h0, 0, 0) _
  unfold h_Bo_levelOf at hd
  refine am_steps ok_Bo_levelOf 1 (x' := (1, [some (.ref 10), some (.int a), some (.int b), none], [.ref 10], h0, 0, 0)) rfl (Nat.le_of_ble_eq_true rfl) (Nat.le_of_ble_eq_true rfl) ?_
  refine hr_get ok_Bo_levelOf rfl hR (kd := 4) (hs_k hR (a := 10) rfl) rfl (Nat.le_of_ble_eq_true rfl) (Nat.le_of_ble_eq_true rfl) (v := .ref 11) (congrArg va_rf (hR.2.2.2.2.1 (400, 10, 11) (by decide))) (pc' := 4) rfl (Nat.le_of_ble_eq_true rfl) (Nat.le_of_ble_eq_true rfl) ?_
  refine am_steps ok_Bo_levelOf 1 (x' := (5, [some (.ref 10), some (.int a), some (.int b), none], [.int a, .ref 11], h0, 0, 0)) rfl (Nat.le_of_ble_eq_true rfl) (Nat.le_of_ble_eq_true rfl) ?_
  obtain ⟨j1, hx2, hd3⟩ := Option.bind_eq_some_iff.mp hd; clear hd; have hd := hd3; clear hd3
  refine hr_aald ok_Bo_levelOf rfl hR (kd := 24) (hs_k hR (a := 11) rfl) (by decide) (hs_ln hR rfl) hx2 (pc' := 6) rfl (Nat.le_of_ble_eq_true rfl) (Nat.le_of_ble_eq_true rfl) ?_
  obtain ⟨b4, hb5, hd6⟩ := Option.bind_eq_some_iff.mp hd; clear hd; have hd := hd6; clear hd6
  have hk7 := (fun b hb => hR.2.2.2.1 _ _ (hK.ln (hs_k hR (a := 11) rfl)) _ b hb) b4 hb5
  rw [hb5]
  show am_S _ _ _ _ _ _ _ (6, [some (.ref 10), some (.int a), some (.int b), none], [.ref b4], h0, 0, 0) _
  refine hr_get ok_Bo_levelOf rfl hR (kd := 9) hk7 rfl (Nat.le_of_ble_eq_true rfl) (Nat.le_of_ble_eq_true rfl) (v := va_rf (S.2.2.2.1 902 b4)) rfl (pc' := 9) rfl (Nat.le_of_ble_eq_true rfl) (Nat.le_of_ble_eq_true rfl) ?_
  refine am_steps ok_Bo_levelOf 1 (x' := (10, [some (.ref 10), some (.int a), some (.int b), none], [.int b, va_rf (S.2.2.2.1 902 b4)], h0, 0, 0)) rfl (Nat.le_of_ble_eq_true rfl) (Nat.le_of_ble_eq_true rfl) ?_
  obtain ⟨b8, hb9, hd10⟩ := Option.bind_eq_some_iff.mp hd; clear hd; have hd := hd10; clear hd10
  have hk11 := (fun b hb => hR.2.2.1 902 _ b hb) b8 hb9
  rw [hb9]
  show am_S _ _ _ _ _ _ _ (10, [some (.ref 10), some (.int a), some (.int b), none], [.int b, .ref b8], h0, 0, 0) _
  obtain ⟨j12, hx13, hd14⟩ := Option.bind_eq_some_iff.mp hd; clear hd; have hd := hd14; clear hd14
  refine hr_aald ok_Bo_levelOf rfl hR (kd := 26) hk11 (by decide) rfl hx13 (pc' := 11) rfl (Nat.le_of_ble_eq_true rfl) (Nat.le_of_ble_eq_true rfl) ?_
  refine hr_astoren ok_Bo_levelOf rfl (Nat.le_of_ble_eq_true rfl) (lo' := [some (.ref 10), some (.int a), some (.int b), some (va_rf (S.2.2.2.2.2.2 b8 j12))]) rfl (pc' := 12) rfl (Nat.le_of_ble_eq_true rfl) (Nat.le_of_ble_eq_true rfl) ?_
  refine hr_aloadn ok_Bo_levelOf rfl rfl (pc' := 13) rfl (Nat.le_of_ble_eq_true rfl) (Nat.le_of_ble_eq_true rfl) ?_
  refine hr_ifnon ok_Bo_levelOf rfl (pc' := 16) rfl (Nat.le_of_ble_eq_true rfl) (Nat.le_of_ble_eq_true rfl) ?_
  refine am_if (fun hc15 => ?_) (fun hc15 => ?_)
  · rw [if_pos hc15] at hd
    refine am_steps ok_Bo_levelOf 2 (x' := (24, [some (.ref 10), some (.int a), some (.int b), some (va_rf (S.2.2.2.2.2.2 b8 j12))], [.long 0], h0, 0, 0)) rfl (Nat.le_of_ble_eq_true rfl) (Nat.le_of_ble_eq_true rfl) ?_
    cases hd; exact am_ret ok_Bo_levelOf rfl (Nat.le_of_ble_eq_true rfl) (Nat.le_of_ble_eq_true rfl) ⟨rfl, rfl⟩
  · rw [if_neg hc15] at hd
    obtain ⟨b16, hb17, hd18⟩ := Option.bind_eq_some_iff.mp hd; clear hd; have hd := hd18; clear hd18
    have hk19 := (fun b hb => hR.2.2.2.1 _ _ (hK.ln hk11) _ b hb) b16 hb17
    rw [hb17]
    show am_S _ _ _ _ _ _ _ (20, [some (.ref 10), some (.int a), some (.int b), some (.ref b16)], [], h0, 0, 0) _
    refine am_steps ok_Bo_levelOf 1 (x' := (21, [some (.ref 10), some (.int a), some (.int b), some (.ref b16)], [.ref b16], h0, 0, 0)) rfl (Nat.le_of_ble_eq_true rfl) (Nat.le_of_ble_eq_true rfl) ?_
    refine hr_get ok_Bo_levelOf rfl hR (kd := 10) hk19 rfl (Nat.le_of_ble_eq_true rfl) (Nat.le_of_ble_eq_true rfl) (v := .long (S.2.2.1 1001 b16)) rfl (pc' := 24) rfl (Nat.le_of_ble_eq_true rfl) (Nat.le_of_ble_eq_true rfl) ?_
    cases hd; exact am_ret ok_Bo_levelOf rfl (Nat.le_of_ble_eq_true rfl) (Nat.le_of_ble_eq_true rfl) ⟨rfl, rfl⟩
def h_Bo_canHaveCredit (a : Int32) (b : Int64) (S : hS) : Option (Int32) := if ((S.2.1 404 10) : Int32) = (-1) then (some 1) else ((h_Bo_levelOf a (S.2.1 404 10) S).bind fun q2 => (if ((lg_cmp q2 (-b)) : Int32) < 0 then (some 0) else (some 1)))
set_option maxHeartbeats 4000000 in
set_option maxRecDepth 100000 in
theorem c_Bo_canHaveCredit (a : Int32) (b : Int64) (S : hS) (h0 : am_H) (hR : RH S h0)  (q : Int32) (hd : h_Bo_canHaveCredit a b S = some q) : am_Me am_Pr none 1 23 0 0 122 [.ref 10, .int a, .long b] h0 (am_is (some (.int q)) h0) := by
  refine am_enter (d := hd_Bo_canHaveCredit) rfl (by decide +kernel) (Nat.le_of_ble_eq_true rfl) ?_
  show am_S _ _ _ _ _ _ _ (0, [some (.ref 10), some (.int a), some (.long b), none], [], h0, 0, 0) _
  unfold h_Bo_canHaveCredit at hd
  refine am_steps ok_Bo_canHaveCredit 1 (x' := (1, [some (.ref 10), some (.int a), some (.long b), none], [.ref 10], h0, 0, 0)) rfl (Nat.le_of_ble_eq_true rfl) (Nat.le_of_ble_eq_true rfl) ?_
  refine hr_get ok_Bo_canHaveCredit rfl hR (kd := 4) (hs_k hR (a := 10) rfl) rfl (Nat.le_of_ble_eq_true rfl) (Nat.le_of_ble_eq_true rfl) (v := .int (S.2.1 404 10)) rfl (pc' := 4) rfl (Nat.le_of_ble_eq_true rfl) (Nat.le_of_ble_eq_true rfl) ?_
  refine am_steps ok_Bo_canHaveCredit 2 (x' := (if ((S.2.1 404 10) : Int32) = (-1) then 23 else 8, [some (.ref 10), some (.int a), some (.long b), none], [], h0, 0, 0)) rfl (Nat.le_of_ble_eq_true rfl) (Nat.le_of_ble_eq_true rfl) ?_
  refine am_if (fun hc1 => ?_) (fun hc1 => ?_)
  · rw [if_pos hc1] at hd
    refine am_steps ok_Bo_canHaveCredit 2 (x' := (28, [some (.ref 10), some (.int a), some (.long b), none], [.int 1], h0, 0, 0)) rfl (Nat.le_of_ble_eq_true rfl) (Nat.le_of_ble_eq_true rfl) ?_
    cases hd; exact am_ret ok_Bo_canHaveCredit rfl (Nat.le_of_ble_eq_true rfl) (Nat.le_of_ble_eq_true rfl) ⟨rfl, rfl⟩
  · rw [if_neg hc1] at hd
    refine am_steps ok_Bo_canHaveCredit 3 (x' := (11, [some (.ref 10), some (.int a), some (.long b), none], [.ref 10, .int a, .ref 10], h0, 0, 0)) rfl (Nat.le_of_ble_eq_true rfl) (Nat.le_of_ble_eq_true rfl) ?_
    refine hr_get ok_Bo_canHaveCredit rfl hR (kd := 4) (hs_k hR (a := 10) rfl) rfl (Nat.le_of_ble_eq_true rfl) (Nat.le_of_ble_eq_true rfl) (v := .int (S.2.1 404 10)) rfl (pc' := 14) rfl (Nat.le_of_ble_eq_true rfl) (Nat.le_of_ble_eq_true rfl) ?_
    obtain ⟨q2, hq3, hd4⟩ := Option.bind_eq_some_iff.mp hd; clear hd; have hd := hd4; clear hd4
    refine ar_cv ok_Bo_canHaveCredit hk_Bo_levelOf rfl rfl (As := [.int a, .int (S.2.1 404 10)]) (ad := 10) (rest := []) rfl rfl (hR.ob (hs_k hR (a := 10) rfl) (Nat.le_of_ble_eq_true rfl)) (Nat.le_of_ble_eq_true rfl) (c_Bo_levelOf a (S.2.1 404 10) S h0 hR  q2 hq3) (Nat.le_of_ble_eq_true rfl) (Nat.le_of_ble_eq_true rfl) (Nat.le_of_ble_eq_true rfl) (Nat.le_of_ble_eq_true rfl) (pc' := 17) rfl (fun r5 h7 z6 => ?_)
    obtain ⟨rfl, z9⟩ := z6; rw [z9]
    show am_S _ _ _ _ _ _ _ (17, [some (.ref 10), some (.int a), some (.long b), none], [.long q2], h0, 0, 0) _
    refine am_steps ok_Bo_canHaveCredit 4 (x' := (if ((lg_cmp q2 (-b)) : Int32) < 0 then 27 else 23, [some (.ref 10), some (.int a), some (.long b), none], [], h0, 0, 0)) rfl (Nat.le_of_ble_eq_true rfl) (Nat.le_of_ble_eq_true rfl) ?_
    refine am_if (fun hc10 => ?_) (fun hc10 => ?_)
    · rw [if_pos hc10] at hd
      refine am_steps ok_Bo_canHaveCredit 1 (x' := (28, [some (.ref 10), some (.int a), some (.long b), none], [.int 0], h0, 0, 0)) rfl (Nat.le_of_ble_eq_true rfl) (Nat.le_of_ble_eq_true rfl) ?_
      cases hd; exact am_ret ok_Bo_canHaveCredit rfl (Nat.le_of_ble_eq_true rfl) (Nat.le_of_ble_eq_true rfl) ⟨rfl, rfl⟩
    · rw [if_neg hc10] at hd
      refine am_steps ok_Bo_canHaveCredit 2 (x' := (28, [some (.ref 10), some (.int a), some (.long b), none], [.int 1], h0, 0, 0)) rfl (Nat.le_of_ble_eq_true rfl) (Nat.le_of_ble_eq_true rfl) ?_
      cases hd; exact am_ret ok_Bo_canHaveCredit rfl (Nat.le_of_ble_eq_true rfl) (Nat.le_of_ble_eq_true rfl) ⟨rfl, rfl⟩
def hl_Bo_allCreditIfPriced_6 : Nat → Int32 → Int64 → Int32 → Int64 → Int32 → hS → Option (Int64)
  | 0, _, _, _, _, _, _ => none
  | fu + 1, v1, v2, v4, v5, v7, s => if ((s.2.1 401 10) : Int32) ≤ v7 then (some v5) else ((h_Bo_creditIfPriced v7 v1 v2 v4 s).bind fun q2 => (hl_Bo_allCreditIfPriced_6 fu v1 v2 v4 (if (Int64.ofNat 4000000000000000001) < (v5 + (if (Int64.ofNat 4000000000000000001) < q2 then (Int64.ofNat 4000000000000000001) else q2)) then (Int64.ofNat 4000000000000000001) else (v5 + (if (Int64.ofNat 4000000000000000001) < q2 then (Int64.ofNat 4000000000000000001) else q2))) (v7 + 1) s))
set_option maxHeartbeats 4000000 in
set_option maxRecDepth 100000 in
theorem Lc_Bo_allCreditIfPriced_6 {Q : Option Value → am_H → Prop} (s : hS) (h : am_H) (hR : RH s h) : ∀ (fu : Nat) (v1 : Int32) (v2 : Int64) (v4 : Int32) (v5 : Int64) (v7 : Int32), ∀ (q : Int64), hl_Bo_allCreditIfPriced_6 fu v1 v2 v4 v5 v7 s = some q → (am_S am_Pr none 2 62 0 0 124 (52, [some (.ref 10), some (.int v1), some (.long v2), none, some (.int v4), some (.long q), none, none, none, none], [], h, 0, 0) Q) → am_S am_Pr none 2 62 0 0 124 (6, [some (.ref 10), some (.int v1), some (.long v2), none, some (.int v4), some (.long v5), none, some (.int v7), none, none], [], h, 0, 0) Q := by
  intro fu
  induction fu with
  | zero => intro v1 v2 v4 v5 v7  q hd; cases hd
  | succ fu ih =>
    intro v1 v2 v4 v5 v7  q hd kk
    unfold hl_Bo_allCreditIfPriced_6 at hd
    refine am_steps ok_Bo_allCreditIfPriced 2 (x' := (9, [some (.ref 10), some (.int v1), some (.long v2), none, some (.int v4), some (.long v5), none, some (.int v7), none, none], [.ref 10, .int v7], h, 0, 0)) rfl (Nat.le_of_ble_eq_true rfl) (Nat.le_of_ble_eq_true rfl) ?_
    refine hr_get ok_Bo_allCreditIfPriced rfl hR (kd := 4) (hs_k hR (a := 10) rfl) rfl (Nat.le_of_ble_eq_true rfl) (Nat.le_of_ble_eq_true rfl) (v := .int (s.2.1 401 10)) rfl (pc' := 12) rfl (Nat.le_of_ble_eq_true rfl) (Nat.le_of_ble_eq_true rfl) ?_
    refine am_steps ok_Bo_allCreditIfPriced 1 (x' := (if ((s.2.1 401 10) : Int32) ≤ v7 then 52 else 15, [some (.ref 10), some (.int v1), some (.long v2), none, some (.int v4), some (.long v5), none, some (.int v7), none, none], [], h, 0, 0)) rfl (Nat.le_of_ble_eq_true rfl) (Nat.le_of_ble_eq_true rfl) ?_
    refine am_if (fun hc1 => ?_) (fun hc1 => ?_)
    · rw [if_pos hc1] at hd
      refine am_drop 7 ?_
      cases hd; exact kk 
    · rw [if_neg hc1] at hd
      refine am_steps ok_Bo_allCreditIfPriced 5 (x' := (22, [some (.ref 10), some (.int v1), some (.long v2), none, some (.int v4), some (.long v5), none, some (.int v7), none, none], [.int v4, .long v2, .int v1, .int v7, .ref 10], h, 0, 0)) rfl (Nat.le_of_ble_eq_true rfl) (Nat.le_of_ble_eq_true rfl) ?_
      obtain ⟨q2, hq3, hd4⟩ := Option.bind_eq_some_iff.mp hd; clear hd; have hd := hd4; clear hd4
      refine ar_cv ok_Bo_allCreditIfPriced hk_Bo_creditIfPriced rfl rfl (As := [.int v7, .int v1, .long v2, .int v4]) (ad := 10) (rest := []) rfl rfl (hR.ob (hs_k hR (a := 10) rfl) (Nat.le_of_ble_eq_true rfl)) (Nat.le_of_ble_eq_true rfl) (c_Bo_creditIfPriced v7 v1 v2 v4 s h hR  q2 hq3) (Nat.le_of_ble_eq_true rfl) (Nat.le_of_ble_eq_true rfl) (Nat.le_of_ble_eq_true rfl) (Nat.le_of_ble_eq_true rfl) (pc' := 25) rfl (fun r5 h7 z6 => ?_)
      obtain ⟨rfl, z9⟩ := z6; rw [z9]
      show am_S _ _ _ _ _ _ _ (25, [some (.ref 10), some (.int v1), some (.long v2), none, some (.int v4), some (.long v5), none, some (.int v7), none, none], [.long q2], h, 0, 0) _
      refine am_steps ok_Bo_allCreditIfPriced 1 (x' := (28, [some (.ref 10), some (.int v1), some (.long v2), none, some (.int v4), some (.long v5), none, some (.int v7), none, none], [.long (Int64.ofNat 4000000000000000001), .long q2], h, 0, 0)) rfl (Nat.le_of_ble_eq_true rfl) (Nat.le_of_ble_eq_true rfl) ?_
      refine ar_minL ok_Bo_allCreditIfPriced rfl (w := (if (Int64.ofNat 4000000000000000001) < q2 then (Int64.ofNat 4000000000000000001) else q2)) rfl (Nat.le_of_ble_eq_true rfl) (Nat.le_of_ble_eq_true rfl) (Nat.le_of_ble_eq_true rfl) (Nat.le_of_ble_eq_true rfl) (pc' := 31) rfl ?_
      refine am_steps ok_Bo_allCreditIfPriced 5 (x' := (41, [some (.ref 10), some (.int v1), some (.long v2), none, some (.int v4), some (.long v5), none, some (.int v7), some (.long (if (Int64.ofNat 4000000000000000001) < q2 then (Int64.ofNat 4000000000000000001) else q2)), none], [.long (Int64.ofNat 4000000000000000001), .long (v5 + (if (Int64.ofNat 4000000000000000001) < q2 then (Int64.ofNat 4000000000000000001) else q2))], h, 0, 0)) rfl (Nat.le_of_ble_eq_true rfl) (Nat.le_of_ble_eq_true rfl) ?_
      refine ar_minL ok_Bo_allCreditIfPriced rfl (w := (if (Int64.ofNat 4000000000000000001) < (v5 + (if (Int64.ofNat 4000000000000000001) < q2 then (Int64.ofNat 4000000000000000001) else q2)) then (Int64.ofNat 4000000000000000001) else (v5 + (if (Int64.ofNat 4000000000000000001) < q2 then (Int64.ofNat 4000000000000000001) else q2)))) rfl (Nat.le_of_ble_eq_true rfl) (Nat.le_of_ble_eq_true rfl) (Nat.le_of_ble_eq_true rfl) (Nat.le_of_ble_eq_true rfl) (pc' := 44) rfl ?_
      refine am_steps ok_Bo_allCreditIfPriced 3 (x' := (6, [some (.ref 10), some (.int v1), some (.long v2), none, some (.int v4), some (.long (if (Int64.ofNat 4000000000000000001) < (v5 + (if (Int64.ofNat 4000000000000000001) < q2 then (Int64.ofNat 4000000000000000001) else q2)) then (Int64.ofNat 4000000000000000001) else (v5 + (if (Int64.ofNat 4000000000000000001) < q2 then (Int64.ofNat 4000000000000000001) else q2)))), none, some (.int (v7 + 1)), some (.long (if (Int64.ofNat 4000000000000000001) < q2 then (Int64.ofNat 4000000000000000001) else q2)), none], [], h, 0, 0)) rfl (Nat.le_of_ble_eq_true rfl) (Nat.le_of_ble_eq_true rfl) ?_
      refine am_drop 8 ?_
      exact ih v1 v2 v4 (if (Int64.ofNat 4000000000000000001) < (v5 + (if (Int64.ofNat 4000000000000000001) < q2 then (Int64.ofNat 4000000000000000001) else q2)) then (Int64.ofNat 4000000000000000001) else (v5 + (if (Int64.ofNat 4000000000000000001) < q2 then (Int64.ofNat 4000000000000000001) else q2))) (v7 + 1)  q hd kk
def h_Bo_allCreditIfPriced (a : Int32) (b : Int64) (c : Int32) (S : hS) : Option (Int64) := (hl_Bo_allCreditIfPriced_6 100000 a b c 0 0 S).bind fun q10 => (some q10)
set_option maxHeartbeats 4000000 in
set_option maxRecDepth 100000 in
theorem c_Bo_allCreditIfPriced (a : Int32) (b : Int64) (c : Int32) (S : hS) (h0 : am_H) (hR : RH S h0)  (q : Int64) (hd : h_Bo_allCreditIfPriced a b c S = some q) : am_Me am_Pr none 2 62 0 0 124 [.ref 10, .int a, .long b, .int c] h0 (am_is (some (.long q)) h0) := by
  refine am_enter (d := hd_Bo_allCreditIfPriced) rfl (by decide +kernel) (Nat.le_of_ble_eq_true rfl) ?_
  show am_S _ _ _ _ _ _ _ (0, [some (.ref 10), some (.int a), some (.long b), none, some (.int c), none, none, none, none, none], [], h0, 0, 0) _
  unfold h_Bo_allCreditIfPriced at hd
  refine am_steps ok_Bo_allCreditIfPriced 4 (x' := (6, [some (.ref 10), some (.int a), some (.long b), none, some (.int c), some (.long 0), none, some (.int 0), none, none], [], h0, 0, 0)) rfl (Nat.le_of_ble_eq_true rfl) (Nat.le_of_ble_eq_true rfl) ?_
  obtain ⟨q10, hq11, hd12⟩ := Option.bind_eq_some_iff.mp hd; clear hd; have hd := hd12; clear hd12
  refine Lc_Bo_allCreditIfPriced_6 S h0 hR 100000 a b c 0 0  q10 hq11 ?_
  show am_S _ _ _ _ _ _ _ (52, [some (.ref 10), some (.int a), some (.long b), none, some (.int c), some (.long q10), none, none, none, none], [], h0, 0, 0) _
  refine am_steps ok_Bo_allCreditIfPriced 1 (x' := (54, [some (.ref 10), some (.int a), some (.long b), none, some (.int c), some (.long q10), none, none, none, none], [.long q10], h0, 0, 0)) rfl (Nat.le_of_ble_eq_true rfl) (Nat.le_of_ble_eq_true rfl) ?_
  cases hd; exact am_ret ok_Bo_allCreditIfPriced rfl (Nat.le_of_ble_eq_true rfl) (Nat.le_of_ble_eq_true rfl) ⟨rfl, rfl⟩
def hl_De_judgePrice_35 : Nat → Int32 → Int64 → Int32 → hS → Option (Int32)
  | 0, _, _, _, _ => none
  | fu + 1, v2, v3, v5, s => if ((s.2.1 401 10) : Int32) ≤ v5 then ((h_Bo_allCreditIfPriced v2 v3 (s.2.1 816 2) s).bind fun q16 => (if ((lg_cmp q16 (Int64.ofNat 4000000000000000000)) : Int32) ≤ 0 then (some 0) else (some 10))) else (if (v5 : Int32) = 0 then (hl_De_judgePrice_35 fu v2 v3 (v5 + 1) s) else ((h_Bo_creditIfPriced v5 v2 v3 (s.2.1 816 2) s).bind fun q26 => ((h_Bo_canHaveCredit v5 q26 s).bind fun q34 => (if ¬ (q34 : Int32) = 0 then (hl_De_judgePrice_35 fu v2 v3 (v5 + 1) s) else (some 9)))))
set_option maxHeartbeats 4000000 in
set_option maxRecDepth 100000 in
theorem Lc_De_judgePrice_35 (s : hS) (h : am_H) (hR : RH s h) : ∀ (fu : Nat) (v2 : Int32) (v3 : Int64) (v5 : Int32), ∀ (q : Int32), hl_De_judgePrice_35 fu v2 v3 v5 s = some q → am_S am_Pr none 3 91 0 0 142 (35, [some (.ref 20), some (.ref 2), some (.int v2), some (.long v3), none, some (.int v5)], [], h, 0, 0) (am_is (some (.int q)) h) := by
  intro fu
  induction fu with
  | zero => intro v2 v3 v5  q hd; cases hd
  | succ fu ih =>
    intro v2 v3 v5  q hd
    unfold hl_De_judgePrice_35 at hd
    refine am_steps ok_De_judgePrice 2 (x' := (38, [some (.ref 20), some (.ref 2), some (.int v2), some (.long v3), none, some (.int v5)], [.ref 20, .int v5], h, 0, 0)) rfl (Nat.le_of_ble_eq_true rfl) (Nat.le_of_ble_eq_true rfl) ?_
    refine hr_get ok_De_judgePrice rfl hR (kd := 5) (hs_k hR (a := 20) rfl) rfl (Nat.le_of_ble_eq_true rfl) (Nat.le_of_ble_eq_true rfl) (v := .ref 10) (congrArg va_rf (hR.2.2.2.2.1 (500, 20, 10) (by decide))) (pc' := 41) rfl (Nat.le_of_ble_eq_true rfl) (Nat.le_of_ble_eq_true rfl) ?_
    refine hr_get ok_De_judgePrice rfl hR (kd := 4) (hs_k hR (a := 10) rfl) rfl (Nat.le_of_ble_eq_true rfl) (Nat.le_of_ble_eq_true rfl) (v := .int (s.2.1 401 10)) rfl (pc' := 44) rfl (Nat.le_of_ble_eq_true rfl) (Nat.le_of_ble_eq_true rfl) ?_
    refine am_steps ok_De_judgePrice 1 (x' := (if ((s.2.1 401 10) : Int32) ≤ v5 then 88 else 47, [some (.ref 20), some (.ref 2), some (.int v2), some (.long v3), none, some (.int v5)], [], h, 0, 0)) rfl (Nat.le_of_ble_eq_true rfl) (Nat.le_of_ble_eq_true rfl) ?_
    refine am_if (fun hc15 => ?_) (fun hc15 => ?_)
    · rw [if_pos hc15] at hd
      refine am_steps ok_De_judgePrice 1 (x' := (89, [some (.ref 20), some (.ref 2), some (.int v2), some (.long v3), none, some (.int v5)], [.ref 20], h, 0, 0)) rfl (Nat.le_of_ble_eq_true rfl) (Nat.le_of_ble_eq_true rfl) ?_
      refine hr_get ok_De_judgePrice rfl hR (kd := 5) (hs_k hR (a := 20) rfl) rfl (Nat.le_of_ble_eq_true rfl) (Nat.le_of_ble_eq_true rfl) (v := .ref 10) (congrArg va_rf (hR.2.2.2.2.1 (500, 20, 10) (by decide))) (pc' := 92) rfl (Nat.le_of_ble_eq_true rfl) (Nat.le_of_ble_eq_true rfl) ?_
      refine am_steps ok_De_judgePrice 3 (x' := (95, [some (.ref 20), some (.ref 2), some (.int v2), some (.long v3), none, some (.int v5)], [.ref 2, .long v3, .int v2, .ref 10], h, 0, 0)) rfl (Nat.le_of_ble_eq_true rfl) (Nat.le_of_ble_eq_true rfl) ?_
      refine hr_get ok_De_judgePrice rfl hR (kd := 8) (hs_k hR (a := 2) rfl) rfl (Nat.le_of_ble_eq_true rfl) (Nat.le_of_ble_eq_true rfl) (v := .int (s.2.1 816 2)) rfl (pc' := 98) rfl (Nat.le_of_ble_eq_true rfl) (Nat.le_of_ble_eq_true rfl) ?_
      obtain ⟨q16, hq17, hd18⟩ := Option.bind_eq_some_iff.mp hd; clear hd; have hd := hd18; clear hd18
      refine ar_cv ok_De_judgePrice hk_Bo_allCreditIfPriced rfl rfl (As := [.int v2, .long v3, .int (s.2.1 816 2)]) (ad := 10) (rest := []) rfl rfl (hR.ob (hs_k hR (a := 10) rfl) (Nat.le_of_ble_eq_true rfl)) (Nat.le_of_ble_eq_true rfl) (c_Bo_allCreditIfPriced v2 v3 (s.2.1 816 2) s h hR  q16 hq17) (Nat.le_of_ble_eq_true rfl) (Nat.le_of_ble_eq_true rfl) (Nat.le_of_ble_eq_true rfl) (Nat.le_of_ble_eq_true rfl) (pc' := 101) rfl (fun r19 h21 z20 => ?_)
      obtain ⟨rfl, z23⟩ := z20; rw [z23]
      show am_S _ _ _ _ _ _ _ (101, [some (.ref 20), some (.ref 2), some (.int v2), some (.long v3), none, some (.int v5)], [.long q16], h, 0, 0) _
      refine am_steps ok_De_judgePrice 3 (x' := (if ((lg_cmp q16 (Int64.ofNat 4000000000000000000)) : Int32) ≤ 0 then 113 else 108, [some (.ref 20), some (.ref 2), some (.int v2), some (.long v3), none, some (.int v5)], [], h, 0, 0)) rfl (Nat.le_of_ble_eq_true rfl) (Nat.le_of_ble_eq_true rfl) ?_
      refine am_if (fun hc24 => ?_) (fun hc24 => ?_)
      · rw [if_pos hc24] at hd
        refine am_steps ok_De_judgePrice 1 (x' := (114, [some (.ref 20), some (.ref 2), some (.int v2), some (.long v3), none, some (.int v5)], [.int 0], h, 0, 0)) rfl (Nat.le_of_ble_eq_true rfl) (Nat.le_of_ble_eq_true rfl) ?_
        cases hd; exact am_ret ok_De_judgePrice rfl (Nat.le_of_ble_eq_true rfl) (Nat.le_of_ble_eq_true rfl) ⟨rfl, rfl⟩
      · rw [if_neg hc24] at hd
        refine am_steps ok_De_judgePrice 2 (x' := (114, [some (.ref 20), some (.ref 2), some (.int v2), some (.long v3), none, some (.int v5)], [.int 10], h, 0, 0)) rfl (Nat.le_of_ble_eq_true rfl) (Nat.le_of_ble_eq_true rfl) ?_
        cases hd; exact am_ret ok_De_judgePrice rfl (Nat.le_of_ble_eq_true rfl) (Nat.le_of_ble_eq_true rfl) ⟨rfl, rfl⟩
    · rw [if_neg hc15] at hd
      refine am_steps ok_De_judgePrice 2 (x' := (if (v5 : Int32) = 0 then 82 else 52, [some (.ref 20), some (.ref 2), some (.int v2), some (.long v3), none, some (.int v5)], [], h, 0, 0)) rfl (Nat.le_of_ble_eq_true rfl) (Nat.le_of_ble_eq_true rfl) ?_
      refine am_if (fun hc25 => ?_) (fun hc25 => ?_)
      · rw [if_pos hc25] at hd
        refine am_steps ok_De_judgePrice 2 (x' := (35, [some (.ref 20), some (.ref 2), some (.int v2), some (.long v3), none, some (.int (v5 + 1))], [], h, 0, 0)) rfl (Nat.le_of_ble_eq_true rfl) (Nat.le_of_ble_eq_true rfl) ?_
        exact ih v2 v3 (v5 + 1)  q hd
      · rw [if_neg hc25] at hd
        refine am_steps ok_De_judgePrice 1 (x' := (53, [some (.ref 20), some (.ref 2), some (.int v2), some (.long v3), none, some (.int v5)], [.ref 20], h, 0, 0)) rfl (Nat.le_of_ble_eq_true rfl) (Nat.le_of_ble_eq_true rfl) ?_
        refine hr_get ok_De_judgePrice rfl hR (kd := 5) (hs_k hR (a := 20) rfl) rfl (Nat.le_of_ble_eq_true rfl) (Nat.le_of_ble_eq_true rfl) (v := .ref 10) (congrArg va_rf (hR.2.2.2.2.1 (500, 20, 10) (by decide))) (pc' := 56) rfl (Nat.le_of_ble_eq_true rfl) (Nat.le_of_ble_eq_true rfl) ?_
        refine am_steps ok_De_judgePrice 2 (x' := (59, [some (.ref 20), some (.ref 2), some (.int v2), some (.long v3), none, some (.int v5)], [.ref 20, .int v5, .ref 10], h, 0, 0)) rfl (Nat.le_of_ble_eq_true rfl) (Nat.le_of_ble_eq_true rfl) ?_
        refine hr_get ok_De_judgePrice rfl hR (kd := 5) (hs_k hR (a := 20) rfl) rfl (Nat.le_of_ble_eq_true rfl) (Nat.le_of_ble_eq_true rfl) (v := .ref 10) (congrArg va_rf (hR.2.2.2.2.1 (500, 20, 10) (by decide))) (pc' := 62) rfl (Nat.le_of_ble_eq_true rfl) (Nat.le_of_ble_eq_true rfl) ?_
        refine am_steps ok_De_judgePrice 4 (x' := (67, [some (.ref 20), some (.ref 2), some (.int v2), some (.long v3), none, some (.int v5)], [.ref 2, .long v3, .int v2, .int v5, .ref 10, .int v5, .ref 10], h, 0, 0)) rfl (Nat.le_of_ble_eq_true rfl) (Nat.le_of_ble_eq_true rfl) ?_
        refine hr_get ok_De_judgePrice rfl hR (kd := 8) (hs_k hR (a := 2) rfl) rfl (Nat.le_of_ble_eq_true rfl) (Nat.le_of_ble_eq_true rfl) (v := .int (s.2.1 816 2)) rfl (pc' := 70) rfl (Nat.le_of_ble_eq_true rfl) (Nat.le_of_ble_eq_true rfl) ?_
        obtain ⟨q26, hq27, hd28⟩ := Option.bind_eq_some_iff.mp hd; clear hd; have hd := hd28; clear hd28
        refine ar_cv ok_De_judgePrice hk_Bo_creditIfPriced rfl rfl (As := [.int v5, .int v2, .long v3, .int (s.2.1 816 2)]) (ad := 10) (rest := [.int v5, .ref 10]) rfl rfl (hR.ob (hs_k hR (a := 10) rfl) (Nat.le_of_ble_eq_true rfl)) (Nat.le_of_ble_eq_true rfl) (c_Bo_creditIfPriced v5 v2 v3 (s.2.1 816 2) s h hR  q26 hq27) (Nat.le_of_ble_eq_true rfl) (Nat.le_of_ble_eq_true rfl) (Nat.le_of_ble_eq_true rfl) (Nat.le_of_ble_eq_true rfl) (pc' := 73) rfl (fun r29 h31 z30 => ?_)
        obtain ⟨rfl, z33⟩ := z30; rw [z33]
        show am_S _ _ _ _ _ _ _ (73, [some (.ref 20), some (.ref 2), some (.int v2), some (.long v3), none, some (.int v5)], [.long q26, .int v5, .ref 10], h, 0, 0) _
        obtain ⟨q34, hq35, hd36⟩ := Option.bind_eq_some_iff.mp hd; clear hd; have hd := hd36; clear hd36
        refine ar_cv ok_De_judgePrice hk_Bo_canHaveCredit rfl rfl (As := [.int v5, .long q26]) (ad := 10) (rest := []) rfl rfl (hR.ob (hs_k hR (a := 10) rfl) (Nat.le_of_ble_eq_true rfl)) (Nat.le_of_ble_eq_true rfl) (c_Bo_canHaveCredit v5 q26 s h hR  q34 hq35) (Nat.le_of_ble_eq_true rfl) (Nat.le_of_ble_eq_true rfl) (Nat.le_of_ble_eq_true rfl) (Nat.le_of_ble_eq_true rfl) (pc' := 76) rfl (fun r37 h39 z38 => ?_)
        obtain ⟨rfl, z41⟩ := z38; rw [z41]
        show am_S _ _ _ _ _ _ _ (76, [some (.ref 20), some (.ref 2), some (.int v2), some (.long v3), none, some (.int v5)], [.int q34], h, 0, 0) _
        refine am_steps ok_De_judgePrice 1 (x' := (if ¬ (q34 : Int32) = 0 then 82 else 79, [some (.ref 20), some (.ref 2), some (.int v2), some (.long v3), none, some (.int v5)], [], h, 0, 0)) rfl (Nat.le_of_ble_eq_true rfl) (Nat.le_of_ble_eq_true rfl) ?_
        refine am_if (fun hc42 => ?_) (fun hc42 => ?_)
        · rw [if_pos hc42] at hd
          refine am_steps ok_De_judgePrice 2 (x' := (35, [some (.ref 20), some (.ref 2), some (.int v2), some (.long v3), none, some (.int (v5 + 1))], [], h, 0, 0)) rfl (Nat.le_of_ble_eq_true rfl) (Nat.le_of_ble_eq_true rfl) ?_
          exact ih v2 v3 (v5 + 1)  q hd
        · rw [if_neg hc42] at hd
          refine am_steps ok_De_judgePrice 1 (x' := (81, [some (.ref 20), some (.ref 2), some (.int v2), some (.long v3), none, some (.int v5)], [.int 9], h, 0, 0)) rfl (Nat.le_of_ble_eq_true rfl) (Nat.le_of_ble_eq_true rfl) ?_
          cases hd; exact am_ret ok_De_judgePrice rfl (Nat.le_of_ble_eq_true rfl) (Nat.le_of_ble_eq_true rfl) ⟨rfl, rfl⟩
def h_De_judgePrice  (S : hS) : Option (Int32) := (am_ix 0 12).bind fun j1 => ((am_ix 0 4).bind fun j4 => ((am_ix (S.2.2.2.2.1 5 j1) 64).bind fun j7 => (((S.2.2.2.2.2.2 12 j7)).bind fun b10 => (if ¬ ((S.2.1 301 b10) : Int32) = 0 then (hl_De_judgePrice_35 100000 (S.2.2.2.2.1 5 j1) (S.2.2.2.2.2.1 6 j4) 0 S) else (some 8)))))
set_option maxHeartbeats 4000000 in
set_option maxRecDepth 100000 in
theorem c_De_judgePrice  (S : hS) (h0 : am_H) (hR : RH S h0)  (q : Int32) (hd : h_De_judgePrice  S = some q) : am_Me am_Pr none 3 91 0 0 142 [.ref 20, .ref 2] h0 (am_is (some (.int q)) h0) := by
  refine am_enter (d := hd_De_judgePrice) rfl (by decide +kernel) (Nat.le_of_ble_eq_true rfl) ?_
  show am_S _ _ _ _ _ _ _ (0, [some (.ref 20), some (.ref 2), none, none, none, none], [], h0, 0, 0) _
  unfold h_De_judgePrice at hd
  refine am_steps ok_De_judgePrice 1 (x' := (1, [some (.ref 20), some (.ref 2), none, none, none, none], [.ref 2], h0, 0, 0)) rfl (Nat.le_of_ble_eq_true rfl) (Nat.le_of_ble_eq_true rfl) ?_
  refine hr_get ok_De_judgePrice rfl hR (kd := 8) (hs_k hR (a := 2) rfl) rfl (Nat.le_of_ble_eq_true rfl) (Nat.le_of_ble_eq_true rfl) (v := .ref 5) (congrArg va_rf (hR.2.2.2.2.1 (809, 2, 5) (by decide))) (pc' := 4) rfl (Nat.le_of_ble_eq_true rfl) (Nat.le_of_ble_eq_true rfl) ?_
  refine am_steps ok_De_judgePrice 1 (x' := (5, [some (.ref 20), some (.ref 2), none, none, none, none], [.int 0, .ref 5], h0, 0, 0)) rfl (Nat.le_of_ble_eq_true rfl) (Nat.le_of_ble_eq_true rfl) ?_
  obtain ⟨j1, hx2, hd3⟩ := Option.bind_eq_some_iff.mp hd; clear hd; have hd := hd3; clear hd3
  refine hr_iald ok_De_judgePrice rfl hR (hs_k hR (a := 5) rfl) (hs_ln hR rfl) hx2 (pc' := 6) rfl (Nat.le_of_ble_eq_true rfl) (Nat.le_of_ble_eq_true rfl) ?_
  refine am_steps ok_De_judgePrice 2 (x' := (8, [some (.ref 20), some (.ref 2), some (.int (S.2.2.2.2.1 5 j1)), none, none, none], [.ref 2], h0, 0, 0)) rfl (Nat.le_of_ble_eq_true rfl) (Nat.le_of_ble_eq_true rfl) ?_
  refine hr_get ok_De_judgePrice rfl hR (kd := 8) (hs_k hR (a := 2) rfl) rfl (Nat.le_of_ble_eq_true rfl) (Nat.le_of_ble_eq_true rfl) (v := .ref 6) (congrArg va_rf (hR.2.2.2.2.1 (811, 2, 6) (by decide))) (pc' := 11) rfl (Nat.le_of_ble_eq_true rfl) (Nat.le_of_ble_eq_true rfl) ?_
  refine am_steps ok_De_judgePrice 1 (x' := (12, [some (.ref 20), some (.ref 2), some (.int (S.2.2.2.2.1 5 j1)), none, none, none], [.int 0, .ref 6], h0, 0, 0)) rfl (Nat.le_of_ble_eq_true rfl) (Nat.le_of_ble_eq_true rfl) ?_
  obtain ⟨j4, hx5, hd6⟩ := Option.bind_eq_some_iff.mp hd; clear hd; have hd := hd6; clear hd6
  refine hr_lald ok_De_judgePrice rfl hR (hs_k hR (a := 6) rfl) (hs_ln hR rfl) hx5 (pc' := 13) rfl (Nat.le_of_ble_eq_true rfl) (Nat.le_of_ble_eq_true rfl) ?_
  refine am_steps ok_De_judgePrice 2 (x' := (15, [some (.ref 20), some (.ref 2), some (.int (S.2.2.2.2.1 5 j1)), some (.long (S.2.2.2.2.2.1 6 j4)), none, none], [.ref 20], h0, 0, 0)) rfl (Nat.le_of_ble_eq_true rfl) (Nat.le_of_ble_eq_true rfl) ?_
  refine hr_get ok_De_judgePrice rfl hR (kd := 5) (hs_k hR (a := 20) rfl) rfl (Nat.le_of_ble_eq_true rfl) (Nat.le_of_ble_eq_true rfl) (v := .ref 10) (congrArg va_rf (hR.2.2.2.2.1 (500, 20, 10) (by decide))) (pc' := 18) rfl (Nat.le_of_ble_eq_true rfl) (Nat.le_of_ble_eq_true rfl) ?_
  refine hr_get ok_De_judgePrice rfl hR (kd := 4) (hs_k hR (a := 10) rfl) rfl (Nat.le_of_ble_eq_true rfl) (Nat.le_of_ble_eq_true rfl) (v := .ref 12) (congrArg va_rf (hR.2.2.2.2.1 (402, 10, 12) (by decide))) (pc' := 21) rfl (Nat.le_of_ble_eq_true rfl) (Nat.le_of_ble_eq_true rfl) ?_
  refine am_steps ok_De_judgePrice 1 (x' := (22, [some (.ref 20), some (.ref 2), some (.int (S.2.2.2.2.1 5 j1)), some (.long (S.2.2.2.2.2.1 6 j4)), none, none], [.int (S.2.2.2.2.1 5 j1), .ref 12], h0, 0, 0)) rfl (Nat.le_of_ble_eq_true rfl) (Nat.le_of_ble_eq_true rfl) ?_
  obtain ⟨j7, hx8, hd9⟩ := Option.bind_eq_some_iff.mp hd; clear hd; have hd := hd9; clear hd9
  refine hr_aald ok_De_judgePrice rfl hR (kd := 25) (hs_k hR (a := 12) rfl) (by decide) (hs_ln hR rfl) hx8 (pc' := 23) rfl (Nat.le_of_ble_eq_true rfl) (Nat.le_of_ble_eq_true rfl) ?_
  obtain ⟨b10, hb11, hd12⟩ := Option.bind_eq_some_iff.mp hd; clear hd; have hd := hd12; clear hd12
  have hk13 := (fun b hb => hR.2.2.2.1 _ _ (hK.ln (hs_k hR (a := 12) rfl)) _ b hb) b10 hb11
  rw [hb11]
  show am_S _ _ _ _ _ _ _ (23, [some (.ref 20), some (.ref 2), some (.int (S.2.2.2.2.1 5 j1)), some (.long (S.2.2.2.2.2.1 6 j4)), none, none], [.ref b10], h0, 0, 0) _
  refine hr_get ok_De_judgePrice rfl hR (kd := 3) hk13 rfl (Nat.le_of_ble_eq_true rfl) (Nat.le_of_ble_eq_true rfl) (v := .int (S.2.1 301 b10)) rfl (pc' := 26) rfl (Nat.le_of_ble_eq_true rfl) (Nat.le_of_ble_eq_true rfl) ?_
  refine am_steps ok_De_judgePrice 1 (x' := (if ¬ ((S.2.1 301 b10) : Int32) = 0 then 32 else 29, [some (.ref 20), some (.ref 2), some (.int (S.2.2.2.2.1 5 j1)), some (.long (S.2.2.2.2.2.1 6 j4)), none, none], [], h0, 0, 0)) rfl (Nat.le_of_ble_eq_true rfl) (Nat.le_of_ble_eq_true rfl) ?_
  refine am_if (fun hc14 => ?_) (fun hc14 => ?_)
  · rw [if_pos hc14] at hd
    refine am_steps ok_De_judgePrice 2 (x' := (35, [some (.ref 20), some (.ref 2), some (.int (S.2.2.2.2.1 5 j1)), some (.long (S.2.2.2.2.2.1 6 j4)), none, some (.int 0)], [], h0, 0, 0)) rfl (Nat.le_of_ble_eq_true rfl) (Nat.le_of_ble_eq_true rfl) ?_
    exact Lc_De_judgePrice_35 S h0 hR 100000 (S.2.2.2.2.1 5 j1) (S.2.2.2.2.2.1 6 j4) 0  q hd
  · rw [if_neg hc14] at hd
    refine am_steps ok_De_judgePrice 1 (x' := (31, [some (.ref 20), some (.ref 2), some (.int (S.2.2.2.2.1 5 j1)), some (.long (S.2.2.2.2.2.1 6 j4)), none, none], [.int 8], h0, 0, 0)) rfl (Nat.le_of_ble_eq_true rfl) (Nat.le_of_ble_eq_true rfl) ?_
    cases hd; exact am_ret ok_De_judgePrice rfl (Nat.le_of_ble_eq_true rfl) (Nat.le_of_ble_eq_true rfl) ⟨rfl, rfl⟩
def h_De_judgeIssue  (S : hS) : Option (Int32) := (am_ix 1 12).bind fun j1 => (if ((S.2.2.2.2.1 5 j1) : Int32) = 0 then (some 8) else ((am_ix 0 4).bind fun j5 => (if ¬ ((lg_cmp (S.2.2.2.2.2.1 6 j5) 0) : Int32) = 0 then ((am_ix 0 12).bind fun j9 => ((h_Bo_levelOf 0 (S.2.2.2.2.1 5 j9) S).bind fun q12 => (if (0 : Int32) ≤ (lg_cmp (q12 - (S.2.2.2.2.2.1 6 j5)) (Int64.ofNat 14446744073709551616)) then (some 0) else (some 10)))) else (some 8))))
set_option maxHeartbeats 4000000 in
set_option maxRecDepth 100000 in
theorem c_De_judgeIssue  (S : hS) (h0 : am_H) (hR : RH S h0)  (q : Int32) (hd : h_De_judgeIssue  S = some q) : am_Me am_Pr none 1 23 0 0 143 [.ref 20, .ref 2] h0 (am_is (some (.int q)) h0) := by
  refine am_enter (d := hd_De_judgeIssue) rfl (by decide +kernel) (Nat.le_of_ble_eq_true rfl) ?_
  show am_S _ _ _ _ _ _ _ (0, [some (.ref 20), some (.ref 2)], [], h0, 0, 0) _
  unfold h_De_judgeIssue at hd
  refine am_steps ok_De_judgeIssue 1 (x' := (1, [some (.ref 20), some (.ref 2)], [.ref 2], h0, 0, 0)) rfl (Nat.le_of_ble_eq_true rfl) (Nat.le_of_ble_eq_true rfl) ?_
  refine hr_get ok_De_judgeIssue rfl hR (kd := 8) (hs_k hR (a := 2) rfl) rfl (Nat.le_of_ble_eq_true rfl) (Nat.le_of_ble_eq_true rfl) (v := .ref 5) (congrArg va_rf (hR.2.2.2.2.1 (809, 2, 5) (by decide))) (pc' := 4) rfl (Nat.le_of_ble_eq_true rfl) (Nat.le_of_ble_eq_true rfl) ?_
  refine am_steps ok_De_judgeIssue 1 (x' := (5, [some (.ref 20), some (.ref 2)], [.int 1, .ref 5], h0, 0, 0)) rfl (Nat.le_of_ble_eq_true rfl) (Nat.le_of_ble_eq_true rfl) ?_
  obtain ⟨j1, hx2, hd3⟩ := Option.bind_eq_some_iff.mp hd; clear hd; have hd := hd3; clear hd3
  refine hr_iald ok_De_judgeIssue rfl hR (hs_k hR (a := 5) rfl) (hs_ln hR rfl) hx2 (pc' := 6) rfl (Nat.le_of_ble_eq_true rfl) (Nat.le_of_ble_eq_true rfl) ?_
  refine am_steps ok_De_judgeIssue 1 (x' := (if ((S.2.2.2.2.1 5 j1) : Int32) = 0 then 20 else 9, [some (.ref 20), some (.ref 2)], [], h0, 0, 0)) rfl (Nat.le_of_ble_eq_true rfl) (Nat.le_of_ble_eq_true rfl) ?_
  refine am_if (fun hc4 => ?_) (fun hc4 => ?_)
  · rw [if_pos hc4] at hd
    refine am_steps ok_De_judgeIssue 1 (x' := (22, [some (.ref 20), some (.ref 2)], [.int 8], h0, 0, 0)) rfl (Nat.le_of_ble_eq_true rfl) (Nat.le_of_ble_eq_true rfl) ?_
    cases hd; exact am_ret ok_De_judgeIssue rfl (Nat.le_of_ble_eq_true rfl) (Nat.le_of_ble_eq_true rfl) ⟨rfl, rfl⟩
  · rw [if_neg hc4] at hd
    refine am_steps ok_De_judgeIssue 1 (x' := (10, [some (.ref 20), some (.ref 2)], [.ref 2], h0, 0, 0)) rfl (Nat.le_of_ble_eq_true rfl) (Nat.le_of_ble_eq_true rfl) ?_
    refine hr_get ok_De_judgeIssue rfl hR (kd := 8) (hs_k hR (a := 2) rfl) rfl (Nat.le_of_ble_eq_true rfl) (Nat.le_of_ble_eq_true rfl) (v := .ref 6) (congrArg va_rf (hR.2.2.2.2.1 (811, 2, 6) (by decide))) (pc' := 13) rfl (Nat.le_of_ble_eq_true rfl) (Nat.le_of_ble_eq_true rfl) ?_
    refine am_steps ok_De_judgeIssue 1 (x' := (14, [some (.ref 20), some (.ref 2)], [.int 0, .ref 6], h0, 0, 0)) rfl (Nat.le_of_ble_eq_true rfl) (Nat.le_of_ble_eq_true rfl) ?_
    obtain ⟨j5, hx6, hd7⟩ := Option.bind_eq_some_iff.mp hd; clear hd; have hd := hd7; clear hd7
    refine hr_lald ok_De_judgeIssue rfl hR (hs_k hR (a := 6) rfl) (hs_ln hR rfl) hx6 (pc' := 15) rfl (Nat.le_of_ble_eq_true rfl) (Nat.le_of_ble_eq_true rfl) ?_
    refine am_steps ok_De_judgeIssue 3 (x' := (if ¬ ((lg_cmp (S.2.2.2.2.2.1 6 j5) 0) : Int32) = 0 then 23 else 20, [some (.ref 20), some (.ref 2)], [], h0, 0, 0)) rfl (Nat.le_of_ble_eq_true rfl) (Nat.le_of_ble_eq_true rfl) ?_
    refine am_if (fun hc8 => ?_) (fun hc8 => ?_)
    · rw [if_pos hc8] at hd
      refine am_steps ok_De_judgeIssue 1 (x' := (24, [some (.ref 20), some (.ref 2)], [.ref 20], h0, 0, 0)) rfl (Nat.le_of_ble_eq_true rfl) (Nat.le_of_ble_eq_true rfl) ?_
      refine hr_get ok_De_judgeIssue rfl hR (kd := 5) (hs_k hR (a := 20) rfl) rfl (Nat.le_of_ble_eq_true rfl) (Nat.le_of_ble_eq_true rfl) (v := .ref 10) (congrArg va_rf (hR.2.2.2.2.1 (500, 20, 10) (by decide))) (pc' := 27) rfl (Nat.le_of_ble_eq_true rfl) (Nat.le_of_ble_eq_true rfl) ?_
      refine am_steps ok_De_judgeIssue 2 (x' := (29, [some (.ref 20), some (.ref 2)], [.ref 2, .int 0, .ref 10], h0, 0, 0)) rfl (Nat.le_of_ble_eq_true rfl) (Nat.le_of_ble_eq_true rfl) ?_
      refine hr_get ok_De_judgeIssue rfl hR (kd := 8) (hs_k hR (a := 2) rfl) rfl (Nat.le_of_ble_eq_true rfl) (Nat.le_of_ble_eq_true rfl) (v := .ref 5) (congrArg va_rf (hR.2.2.2.2.1 (809, 2, 5) (by decide))) (pc' := 32) rfl (Nat.le_of_ble_eq_true rfl) (Nat.le_of_ble_eq_true rfl) ?_
      refine am_steps ok_De_judgeIssue 1 (x' := (33, [some (.ref 20), some (.ref 2)], [.int 0, .ref 5, .int 0, .ref 10], h0, 0, 0)) rfl (Nat.le_of_ble_eq_true rfl) (Nat.le_of_ble_eq_true rfl) ?_
      obtain ⟨j9, hx10, hd11⟩ := Option.bind_eq_some_iff.mp hd; clear hd; have hd := hd11; clear hd11
      refine hr_iald ok_De_judgeIssue rfl hR (hs_k hR (a := 5) rfl) (hs_ln hR rfl) hx10 (pc' := 34) rfl (Nat.le_of_ble_eq_true rfl) (Nat.le_of_ble_eq_true rfl) ?_
      obtain ⟨q12, hq13, hd14⟩ := Option.bind_eq_some_iff.mp hd; clear hd; have hd := hd14; clear hd14
      refine ar_cv ok_De_judgeIssue hk_Bo_levelOf rfl rfl (As := [.int 0, .int (S.2.2.2.2.1 5 j9)]) (ad := 10) (rest := []) rfl rfl (hR.ob (hs_k hR (a := 10) rfl) (Nat.le_of_ble_eq_true rfl)) (Nat.le_of_ble_eq_true rfl) (c_Bo_levelOf 0 (S.2.2.2.2.1 5 j9) S h0 hR  q12 hq13) (Nat.le_of_ble_eq_true rfl) (Nat.le_of_ble_eq_true rfl) (Nat.le_of_ble_eq_true rfl) (Nat.le_of_ble_eq_true rfl) (pc' := 37) rfl (fun r15 h17 z16 => ?_)
      obtain ⟨rfl, z19⟩ := z16; rw [z19]
      show am_S _ _ _ _ _ _ _ (37, [some (.ref 20), some (.ref 2)], [.long q12], h0, 0, 0) _
      refine am_steps ok_De_judgeIssue 1 (x' := (38, [some (.ref 20), some (.ref 2)], [.ref 2, .long q12], h0, 0, 0)) rfl (Nat.le_of_ble_eq_true rfl) (Nat.le_of_ble_eq_true rfl) ?_
      refine hr_get ok_De_judgeIssue rfl hR (kd := 8) (hs_k hR (a := 2) rfl) rfl (Nat.le_of_ble_eq_true rfl) (Nat.le_of_ble_eq_true rfl) (v := .ref 6) (congrArg va_rf (hR.2.2.2.2.1 (811, 2, 6) (by decide))) (pc' := 41) rfl (Nat.le_of_ble_eq_true rfl) (Nat.le_of_ble_eq_true rfl) ?_
      refine am_steps ok_De_judgeIssue 1 (x' := (42, [some (.ref 20), some (.ref 2)], [.int 0, .ref 6, .long q12], h0, 0, 0)) rfl (Nat.le_of_ble_eq_true rfl) (Nat.le_of_ble_eq_true rfl) ?_
      refine hr_lald ok_De_judgeIssue rfl hR (hs_k hR (a := 6) rfl) (hs_ln hR rfl) hx6 (pc' := 43) rfl (Nat.le_of_ble_eq_true rfl) (Nat.le_of_ble_eq_true rfl) ?_
      refine am_steps ok_De_judgeIssue 4 (x' := (if (0 : Int32) ≤ (lg_cmp (q12 - (S.2.2.2.2.2.1 6 j5)) (Int64.ofNat 14446744073709551616)) then 56 else 51, [some (.ref 20), some (.ref 2)], [], h0, 0, 0)) rfl (Nat.le_of_ble_eq_true rfl) (Nat.le_of_ble_eq_true rfl) ?_
      refine am_if (fun hc20 => ?_) (fun hc20 => ?_)
      · rw [if_pos hc20] at hd
        refine am_steps ok_De_judgeIssue 1 (x' := (57, [some (.ref 20), some (.ref 2)], [.int 0], h0, 0, 0)) rfl (Nat.le_of_ble_eq_true rfl) (Nat.le_of_ble_eq_true rfl) ?_
        cases hd; exact am_ret ok_De_judgeIssue rfl (Nat.le_of_ble_eq_true rfl) (Nat.le_of_ble_eq_true rfl) ⟨rfl, rfl⟩
      · rw [if_neg hc20] at hd
        refine am_steps ok_De_judgeIssue 2 (x' := (57, [some (.ref 20), some (.ref 2)], [.int 10], h0, 0, 0)) rfl (Nat.le_of_ble_eq_true rfl) (Nat.le_of_ble_eq_true rfl) ?_
        cases hd; exact am_ret ok_De_judgeIssue rfl (Nat.le_of_ble_eq_true rfl) (Nat.le_of_ble_eq_true rfl) ⟨rfl, rfl⟩
    · rw [if_neg hc8] at hd
      refine am_steps ok_De_judgeIssue 1 (x' := (22, [some (.ref 20), some (.ref 2)], [.int 8], h0, 0, 0)) rfl (Nat.le_of_ble_eq_true rfl) (Nat.le_of_ble_eq_true rfl) ?_
      cases hd; exact am_ret ok_De_judgeIssue rfl (Nat.le_of_ble_eq_true rfl) (Nat.le_of_ble_eq_true rfl) ⟨rfl, rfl⟩
def h_Po_init (a : Nat) (b : Int32) (S : hS) : Option (hS) := some (hpI S 1000 a b)
set_option maxHeartbeats 4000000 in
set_option maxRecDepth 100000 in
theorem c_Po_init (a : Nat) (b : Int32) (S : hS) (h0 : am_H) (hR : RH S h0) (ha : hK S.1 a 10) (q : hS) (hd : h_Po_init a b S = some q) : am_Me am_Pr none 1 30 0 0 204 [.ref a, .int b] h0 (hQv q S.1 h0) := by
  refine am_enter (d := hd_Po_init) rfl (by decide +kernel) (Nat.le_of_ble_eq_true rfl) ?_
  show am_S _ _ _ _ _ _ _ (0, [some (.ref a), some (.int b)], [], h0, 0, 0) _
  unfold h_Po_init at hd
  refine am_steps ok_Po_init 1 (x' := (1, [some (.ref a), some (.int b)], [.ref a], h0, 0, 0)) rfl (Nat.le_of_ble_eq_true rfl) (Nat.le_of_ble_eq_true rfl) ?_
  refine am_steps ok_Po_init 3 (x' := (6, [some (.ref a), some (.int b)], [.int b, .ref a], h0, 0, 0)) rfl (Nat.le_of_ble_eq_true rfl) (Nat.le_of_ble_eq_true rfl) ?_
  refine hr_put ok_Po_init rfl hR (kd := 10) ha rfl (Nat.le_of_ble_eq_true rfl) (Nat.le_of_ble_eq_true rfl) rfl (S' := (hpI S 1000 a b)) rfl (hWT.up hR.2.2 rfl rfl rfl) (pc' := 9) rfl (Nat.le_of_ble_eq_true rfl) (Nat.le_of_ble_eq_true rfl) (fun h1 hR2 g3 => ?_)
  have f4 := hF.tr hF.rf g3
  cases hd; exact am_ret ok_Po_init rfl (Nat.le_of_ble_eq_true rfl) (Nat.le_of_ble_eq_true rfl) ⟨rfl, hR2, f4, hE.rf⟩
def h_Bo_account (a : Int32) (b : Int32) (S : hS) : Option (Nat × hS) := (am_ix a 256).bind fun j1 => (((S.2.2.2.2.2.2 11 j1)).bind fun b4 => (((S.2.2.2.1 902 b4)).bind fun b8 => ((am_ix b (hln S.1 b8)).bind fun j12 => ((if (S.2.2.2.2.2.2 b8 j12) = none then ((hs_al S).bind fun a29 => ((h_Po_init a29 (-1) (hNew S 10 0)).bind fun q38 => ((if ¬ ((q38.2.1 901 b4) : Int32) = 0 then (some 0) else (some 1)).bind fun (u49 : Int32) => (if u49 = 0 ∨ u49 = 1 then ((if ¬ (b : Int32) = (q38.2.1 404 10) then (some 0) else (some (-(q38.2.2.1 904 b4)))).bind fun (u58 : Int64) => (((q38.2.2.2.1 902 b4)).bind fun b66 => ((am_ix b (hln q38.1 b66)).bind fun j70 => (some ((some a29), (hpQ (hpL (hpI q38 1002 a29 u49) 1003 a29 u58) b66 j70 (some a29))))))) else none)))) else (some ((S.2.2.2.2.2.2 b8 j12), S))).bind fun (u15 : Option Nat × hS) => ((u15.1).bind fun b24 => (some (b24, u15.2)))))))
set_option maxHeartbeats 4000000 in
set_option maxRecDepth 100000 in
theorem c_Bo_account (a : Int32) (b : Int32) (S : hS) (h0 : am_H) (hR : RH S h0)  (q : Nat × hS) (hd : h_Bo_account a b S = some q) : am_Me am_Pr none 2 51 1 10 114 [.ref 10, .int a, .int b] h0 (hQo (.ref q.1) (some q.1) 10 q.2 S.1 h0) := by
  refine am_enter (d := hd_Bo_account) rfl (by decide +kernel) (Nat.le_of_ble_eq_true rfl) ?_
  show am_S _ _ _ _ _ _ _ (0, [some (.ref 10), some (.int a), some (.int b), none, none], [], h0, 0, 0) _
  unfold h_Bo_account at hd
  refine am_steps ok_Bo_account 1 (x' := (1, [some (.ref 10), some (.int a), some (.int b), none, none], [.ref 10], h0, 0, 0)) rfl (Nat.le_of_ble_eq_true rfl) (Nat.le_of_ble_eq_true rfl) ?_
  refine hr_get ok_Bo_account rfl hR (kd := 4) (hs_k hR (a := 10) rfl) rfl (Nat.le_of_ble_eq_true rfl) (Nat.le_of_ble_eq_true rfl) (v := .ref 11) (congrArg va_rf (hR.2.2.2.2.1 (400, 10, 11) (by decide))) (pc' := 4) rfl (Nat.le_of_ble_eq_true rfl) (Nat.le_of_ble_eq_true rfl) ?_
  refine am_steps ok_Bo_account 1 (x' := (5, [some (.ref 10), some (.int a), some (.int b), none, none], [.int a, .ref 11], h0, 0, 0)) rfl (Nat.le_of_ble_eq_true rfl) (Nat.le_of_ble_eq_true rfl) ?_
  obtain ⟨j1, hx2, hd3⟩ := Option.bind_eq_some_iff.mp hd; clear hd; have hd := hd3; clear hd3
  refine hr_aald ok_Bo_account rfl hR (kd := 24) (hs_k hR (a := 11) rfl) (by decide) (hs_ln hR rfl) hx2 (pc' := 6) rfl (Nat.le_of_ble_eq_true rfl) (Nat.le_of_ble_eq_true rfl) ?_
  refine hr_astoren ok_Bo_account rfl (Nat.le_of_ble_eq_true rfl) (lo' := [some (.ref 10), some (.int a), some (.int b), some (va_rf (S.2.2.2.2.2.2 11 j1)), none]) rfl (pc' := 7) rfl (Nat.le_of_ble_eq_true rfl) (Nat.le_of_ble_eq_true rfl) ?_
  refine hr_aloadn ok_Bo_account rfl rfl (pc' := 8) rfl (Nat.le_of_ble_eq_true rfl) (Nat.le_of_ble_eq_true rfl) ?_
  obtain ⟨b4, hb5, hd6⟩ := Option.bind_eq_some_iff.mp hd; clear hd; have hd := hd6; clear hd6
  have hk7 := (fun b hb => hR.2.2.2.1 _ _ (hK.ln (hs_k hR (a := 11) rfl)) _ b hb) b4 hb5
  rw [hb5]
  show am_S _ _ _ _ _ _ _ (8, [some (.ref 10), some (.int a), some (.int b), some (.ref b4), none], [.ref b4], h0, 0, 0) _
  refine hr_get ok_Bo_account rfl hR (kd := 9) hk7 rfl (Nat.le_of_ble_eq_true rfl) (Nat.le_of_ble_eq_true rfl) (v := va_rf (S.2.2.2.1 902 b4)) rfl (pc' := 11) rfl (Nat.le_of_ble_eq_true rfl) (Nat.le_of_ble_eq_true rfl) ?_
  refine am_steps ok_Bo_account 1 (x' := (12, [some (.ref 10), some (.int a), some (.int b), some (.ref b4), none], [.int b, va_rf (S.2.2.2.1 902 b4)], h0, 0, 0)) rfl (Nat.le_of_ble_eq_true rfl) (Nat.le_of_ble_eq_true rfl) ?_
  obtain ⟨b8, hb9, hd10⟩ := Option.bind_eq_some_iff.mp hd; clear hd; have hd := hd10; clear hd10
  have hk11 := (fun b hb => hR.2.2.1 902 _ b hb) b8 hb9
  rw [hb9]
  show am_S _ _ _ _ _ _ _ (12, [some (.ref 10), some (.int a), some (.int b), some (.ref b4), none], [.int b, .ref b8], h0, 0, 0) _
  obtain ⟨j12, hx13, hd14⟩ := Option.bind_eq_some_iff.mp hd; clear hd; have hd := hd14; clear hd14
  refine hr_aald ok_Bo_account rfl hR (kd := 26) hk11 (by decide) rfl hx13 (pc' := 13) rfl (Nat.le_of_ble_eq_true rfl) (Nat.le_of_ble_eq_true rfl) ?_
  refine hr_astore ok_Bo_account rfl (Nat.le_of_ble_eq_true rfl) (lo' := [some (.ref 10), some (.int a), some (.int b), some (.ref b4), some (va_rf (S.2.2.2.2.2.2 b8 j12))]) rfl (pc' := 15) rfl (Nat.le_of_ble_eq_true rfl) (Nat.le_of_ble_eq_true rfl) ?_
  refine hr_aload ok_Bo_account rfl rfl (pc' := 17) rfl (Nat.le_of_ble_eq_true rfl) (Nat.le_of_ble_eq_true rfl) ?_
  refine hr_ifnon ok_Bo_account rfl (pc' := 20) rfl (Nat.le_of_ble_eq_true rfl) (Nat.le_of_ble_eq_true rfl) ?_
  obtain ⟨u15, hA18, hB19⟩ := Option.bind_eq_some_iff.mp hd; clear hd
  have K17 : ∀ h' : am_H, RH u15.2 h' → hF h0 h' → hE S.1 u15.2.1 → (∀ b, u15.1 = some b → hK u15.2.1 b 10) → am_S am_Pr none 2 51 1 10 114 (77, [none, none, none, none, some (va_rf u15.1)], [], h', 1, 10) (hQo (.ref q.1) (some q.1) 10 q.2 S.1 h0) := by
    have hd := hB19
    intro h20 hR21 f22 e23 hk16
    refine hr_aload ok_Bo_account rfl rfl (pc' := 79) rfl (Nat.le_of_ble_eq_true rfl) (Nat.le_of_ble_eq_true rfl) ?_
    obtain ⟨b24, hb25, hd26⟩ := Option.bind_eq_some_iff.mp hd; clear hd; have hd := hd26; clear hd26
    have hk27 := hk16 b24 hb25
    rw [hb25]
    show am_S _ _ _ _ _ _ _ (79, [none, none, none, none, some (.ref b24)], [.ref b24], h20, 1, 10) _
    cases hd; exact am_ret ok_Bo_account rfl (Nat.le_of_ble_eq_true rfl) (Nat.le_of_ble_eq_true rfl) ⟨rfl, (fun _ hz => by cases hz; exact hk27), hR21, f22, (hE.rf.tr e23)⟩
  clear hB19; have hd := hA18; clear hA18
  refine am_if (fun hc28 => ?_) (fun hc28 => ?_)
  · rw [if_pos hc28] at hd
    obtain ⟨a29, ha30, hd31⟩ := Option.bind_eq_some_iff.mp hd; clear hd; have hd := hd31; clear hd31
    refine hr_new ok_Bo_account rfl hR (kd := 10) rfl (Nat.le_of_ble_eq_true rfl) (Nat.le_of_ble_eq_true rfl) (hs_al1 ha30) (hs_al2 ha30) (pc' := 23) rfl (k' := 1) rfl (n' := 10) rfl (Nat.le_of_ble_eq_true rfl) (Nat.le_of_ble_eq_true rfl) (fun h32 hR33 g34 => ?_)
    have f35 := hF.tr hF.rf g34
    have e36 := hNew_E S 10 0
    have hk37 := hs_al3 ha30 (hNew_K S 10 0)
    refine am_steps ok_Bo_account 2 (x' := (25, [some (.ref 10), some (.int a), some (.int b), some (.ref b4), some (va_rf (S.2.2.2.2.2.2 b8 j12))], [.int (-1), .ref a29, .ref a29], h32, 1, 10)) rfl (Nat.le_of_ble_eq_true rfl) (Nat.le_of_ble_eq_true rfl) ?_
    obtain ⟨q38, hq39, hd40⟩ := Option.bind_eq_some_iff.mp hd; clear hd; have hd := hd40; clear hd40
    refine am_call ok_Bo_account hk_Po_init rfl (args' := [.ref a29, .int (-1)]) (rest := [.ref a29]) rfl (c_Po_init a29 (-1) (hNew S 10 0) h32 hR33 hk37 q38 hq39) (Nat.le_of_ble_eq_true rfl) (Nat.le_of_ble_eq_true rfl) (Nat.le_of_ble_eq_true rfl) (Nat.le_of_ble_eq_true rfl) (fun r41 h43 z42 => ?_)
    obtain ⟨rfl, hR45, g46, e47⟩ := z42
    have f48 := hF.tr f35 g46
    show am_S _ _ _ _ _ _ _ (28, [some (.ref 10), some (.int a), some (.int b), some (.ref b4), some (va_rf (S.2.2.2.2.2.2 b8 j12))], [.ref a29], h43, 1, 10) _
    refine am_steps ok_Bo_account 3 (x' := (33, [some (.ref 10), some (.int a), some (.int b), some (.ref b4), some (.ref a29)], [.ref b4, .ref a29], h43, 1, 10)) rfl (Nat.le_of_ble_eq_true rfl) (Nat.le_of_ble_eq_true rfl) ?_
    refine hr_get ok_Bo_account rfl hR45 (kd := 9) ((hk7.up e36).up e47) rfl (Nat.le_of_ble_eq_true rfl) (Nat.le_of_ble_eq_true rfl) (v := .int (q38.2.1 901 b4)) rfl (pc' := 36) rfl (Nat.le_of_ble_eq_true rfl) (Nat.le_of_ble_eq_true rfl) ?_
    refine am_steps ok_Bo_account 1 (x' := (if ¬ ((q38.2.1 901 b4) : Int32) = 0 then 43 else 39, [some (.ref 10), some (.int a), some (.int b), some (.ref b4), some (.ref a29)], [.ref a29], h43, 1, 10)) rfl (Nat.le_of_ble_eq_true rfl) (Nat.le_of_ble_eq_true rfl) ?_
    obtain ⟨u49, hA51, hB52⟩ := Option.bind_eq_some_iff.mp hd; clear hd
    have K50 : am_S am_Pr none 2 51 1 10 114 (44, [some (.ref 10), none, some (.int b), some (.ref b4), some (.ref a29)], [.int u49, .ref a29], h43, 1, 10) (hQo (.ref q.1) (some q.1) 10 q.2 S.1 h0) := by
      have hd := hB52
      split at hd
      · rename_i hz53
        refine hr_put ok_Bo_account rfl hR45 (kd := 10) (hk37.up e47) rfl (Nat.le_of_ble_eq_true rfl) (Nat.le_of_ble_eq_true rfl) (hs_pkz hz53) (S' := (hpI q38 1002 a29 u49)) rfl (hWT.up hR45.2.2 rfl rfl rfl) (pc' := 47) rfl (Nat.le_of_ble_eq_true rfl) (Nat.le_of_ble_eq_true rfl) (fun h54 hR55 g56 => ?_)
        have f57 := hF.tr f48 g56
        refine am_steps ok_Bo_account 3 (x' := (51, [some (.ref 10), none, some (.int b), some (.ref b4), some (.ref a29)], [.ref 10, .int b, .ref a29], h54, 1, 10)) rfl (Nat.le_of_ble_eq_true rfl) (Nat.le_of_ble_eq_true rfl) ?_
        refine hr_get ok_Bo_account rfl hR55 (kd := 4) (hs_k hR55 (a := 10) rfl) rfl (Nat.le_of_ble_eq_true rfl) (Nat.le_of_ble_eq_true rfl) (v := .int (q38.2.1 404 10)) rfl (pc' := 54) rfl (Nat.le_of_ble_eq_true rfl) (Nat.le_of_ble_eq_true rfl) ?_
        refine am_steps ok_Bo_account 1 (x' := (if ¬ (b : Int32) = (q38.2.1 404 10) then 65 else 57, [some (.ref 10), none, some (.int b), some (.ref b4), some (.ref a29)], [.ref a29], h54, 1, 10)) rfl (Nat.le_of_ble_eq_true rfl) (Nat.le_of_ble_eq_true rfl) ?_
        obtain ⟨u58, hA60, hB61⟩ := Option.bind_eq_some_iff.mp hd; clear hd
        have K59 : am_S am_Pr none 2 51 1 10 114 (66, [none, none, some (.int b), some (.ref b4), some (.ref a29)], [.long u58, .ref a29], h54, 1, 10) (hQo (.ref q.1) (some q.1) 10 q.2 S.1 h0) := by
          have hd := hB61
          refine hr_put ok_Bo_account rfl hR55 (kd := 10) (hk37.up e47) rfl (Nat.le_of_ble_eq_true rfl) (Nat.le_of_ble_eq_true rfl) rfl (S' := (hpL (hpI q38 1002 a29 u49) 1003 a29 u58)) rfl (hWT.up hR55.2.2 rfl rfl rfl) (pc' := 69) rfl (Nat.le_of_ble_eq_true rfl) (Nat.le_of_ble_eq_true rfl) (fun h62 hR63 g64 => ?_)
          have f65 := hF.tr f57 g64
          refine am_steps ok_Bo_account 1 (x' := (70, [none, none, some (.int b), some (.ref b4), some (.ref a29)], [.ref b4], h62, 1, 10)) rfl (Nat.le_of_ble_eq_true rfl) (Nat.le_of_ble_eq_true rfl) ?_
          refine hr_get ok_Bo_account rfl hR63 (kd := 9) ((hk7.up e36).up e47) rfl (Nat.le_of_ble_eq_true rfl) (Nat.le_of_ble_eq_true rfl) (v := va_rf (q38.2.2.2.1 902 b4)) rfl (pc' := 73) rfl (Nat.le_of_ble_eq_true rfl) (Nat.le_of_ble_eq_true rfl) ?_
          refine am_steps ok_Bo_account 2 (x' := (76, [none, none, some (.int b), some (.ref b4), some (.ref a29)], [.ref a29, .int b, va_rf (q38.2.2.2.1 902 b4)], h62, 1, 10)) rfl (Nat.le_of_ble_eq_true rfl) (Nat.le_of_ble_eq_true rfl) ?_
          obtain ⟨b66, hb67, hd68⟩ := Option.bind_eq_some_iff.mp hd; clear hd; have hd := hd68; clear hd68
          have hk69 := (fun b hb => hR63.2.2.1 902 _ b hb) b66 hb67
          rw [hb67]
          show am_S _ _ _ _ _ _ _ (76, [none, none, some (.int b), some (.ref b4), some (.ref a29)], [.ref a29, .int b, .ref b66], h62, 1, 10) _
          obtain ⟨j70, hx71, hd72⟩ := Option.bind_eq_some_iff.mp hd; clear hd; have hd := hd72; clear hd72
          refine hr_aast ok_Bo_account rfl hR63 (kd := 26) hk69 (by decide) rfl hx71 (o := (some a29)) (fun _ hz => by cases hz; exact (hk37.up e47)) (pc' := 77) rfl (Nat.le_of_ble_eq_true rfl) (Nat.le_of_ble_eq_true rfl) (fun h73 hR74 g75 => ?_)
          have f76 := hF.tr f65 g75
          refine am_drop 2 ?_
          refine am_drop 3 ?_
          cases hd; exact K17 h73 hR74 f76 (e36.tr e47) (fun _ hz => by cases hz; exact (hk37.up e47))
        clear hB61; have hd := hA60; clear hA60
        refine am_if (fun hc77 => ?_) (fun hc77 => ?_)
        · rw [if_pos hc77] at hd
          refine am_steps ok_Bo_account 1 (x' := (66, [some (.ref 10), none, some (.int b), some (.ref b4), some (.ref a29)], [.long 0, .ref a29], h54, 1, 10)) rfl (Nat.le_of_ble_eq_true rfl) (Nat.le_of_ble_eq_true rfl) ?_
          refine am_drop 0 ?_
          cases hd; exact K59 
        · rw [if_neg hc77] at hd
          refine am_steps ok_Bo_account 1 (x' := (58, [some (.ref 10), none, some (.int b), some (.ref b4), some (.ref a29)], [.ref b4, .ref a29], h54, 1, 10)) rfl (Nat.le_of_ble_eq_true rfl) (Nat.le_of_ble_eq_true rfl) ?_
          refine hr_get ok_Bo_account rfl hR55 (kd := 9) ((hk7.up e36).up e47) rfl (Nat.le_of_ble_eq_true rfl) (Nat.le_of_ble_eq_true rfl) (v := .long (q38.2.2.1 904 b4)) rfl (pc' := 61) rfl (Nat.le_of_ble_eq_true rfl) (Nat.le_of_ble_eq_true rfl) ?_
          refine am_steps ok_Bo_account 2 (x' := (66, [some (.ref 10), none, some (.int b), some (.ref b4), some (.ref a29)], [.long (-(q38.2.2.1 904 b4)), .ref a29], h54, 1, 10)) rfl (Nat.le_of_ble_eq_true rfl) (Nat.le_of_ble_eq_true rfl) ?_
          refine am_drop 0 ?_
          cases hd; exact K59 
      · cases hd
    clear hB52; have hd := hA51; clear hA51
    refine am_if (fun hc78 => ?_) (fun hc78 => ?_)
    · rw [if_pos hc78] at hd
      refine am_steps ok_Bo_account 1 (x' := (44, [some (.ref 10), some (.int a), some (.int b), some (.ref b4), some (.ref a29)], [.int 0, .ref a29], h43, 1, 10)) rfl (Nat.le_of_ble_eq_true rfl) (Nat.le_of_ble_eq_true rfl) ?_
      refine am_drop 1 ?_
      cases hd; exact K50 
    · rw [if_neg hc78] at hd
      refine am_steps ok_Bo_account 2 (x' := (44, [some (.ref 10), some (.int a), some (.int b), some (.ref b4), some (.ref a29)], [.int 1, .ref a29], h43, 1, 10)) rfl (Nat.le_of_ble_eq_true rfl) (Nat.le_of_ble_eq_true rfl) ?_
      refine am_drop 1 ?_
      cases hd; exact K50 
  · rw [if_neg hc28] at hd
    refine am_drop 0 ?_
    refine am_drop 1 ?_
    refine am_drop 2 ?_
    refine am_drop 3 ?_
    refine am_wide (k' := 1) (n' := 10) (Nat.le_of_ble_eq_true rfl) (Nat.le_of_ble_eq_true rfl) ?_
    cases hd; exact K17 h0 hR hF.rf hE.rf (fun b hb => hR.2.2.2.1 _ _ (hK.ln hk11) _ b hb)
def h_Po_canMoveBy (a : Nat) (b : Int64) (S : hS) : Option (Int32) := if ((S.2.1 1002 a) : Int32) = 0 then (some 1) else (if ((lg_cmp ((S.2.2.1 1001 a) + b) (S.2.2.1 1003 a)) : Int32) < 0 then (some 0) else (some 1))
set_option maxHeartbeats 4000000 in
set_option maxRecDepth 100000 in
theorem c_Po_canMoveBy (a : Nat) (b : Int64) (S : hS) (h0 : am_H) (hR : RH S h0) (ha : hK S.1 a 10) (q : Int32) (hd : h_Po_canMoveBy a b S = some q) : am_Me am_Pr none 0 0 0 0 206 [.ref a, .long b] h0 (am_is (some (.int q)) h0) := by
  refine am_enter (d := hd_Po_canMoveBy) rfl (by decide +kernel) (Nat.le_of_ble_eq_true rfl) ?_
  show am_S _ _ _ _ _ _ _ (0, [some (.ref a), some (.long b), none], [], h0, 0, 0) _
  unfold h_Po_canMoveBy at hd
  refine am_steps ok_Po_canMoveBy 1 (x' := (1, [some (.ref a), some (.long b), none], [.ref a], h0, 0, 0)) rfl (Nat.le_of_ble_eq_true rfl) (Nat.le_of_ble_eq_true rfl) ?_
  refine hr_get ok_Po_canMoveBy rfl hR (kd := 10) ha rfl (Nat.le_of_ble_eq_true rfl) (Nat.le_of_ble_eq_true rfl) (v := .int (S.2.1 1002 a)) rfl (pc' := 4) rfl (Nat.le_of_ble_eq_true rfl) (Nat.le_of_ble_eq_true rfl) ?_
  refine am_steps ok_Po_canMoveBy 1 (x' := (if ((S.2.1 1002 a) : Int32) = 0 then 21 else 7, [some (.ref a), some (.long b), none], [], h0, 0, 0)) rfl (Nat.le_of_ble_eq_true rfl) (Nat.le_of_ble_eq_true rfl) ?_
  refine am_if (fun hc1 => ?_) (fun hc1 => ?_)
  · rw [if_pos hc1] at hd
    refine am_steps ok_Po_canMoveBy 2 (x' := (26, [some (.ref a), some (.long b), none], [.int 1], h0, 0, 0)) rfl (Nat.le_of_ble_eq_true rfl) (Nat.le_of_ble_eq_true rfl) ?_
    cases hd; exact am_ret ok_Po_canMoveBy rfl (Nat.le_of_ble_eq_true rfl) (Nat.le_of_ble_eq_true rfl) ⟨rfl, rfl⟩
  · rw [if_neg hc1] at hd
    refine am_steps ok_Po_canMoveBy 1 (x' := (8, [some (.ref a), some (.long b), none], [.ref a], h0, 0, 0)) rfl (Nat.le_of_ble_eq_true rfl) (Nat.le_of_ble_eq_true rfl) ?_
    refine hr_get ok_Po_canMoveBy rfl hR (kd := 10) ha rfl (Nat.le_of_ble_eq_true rfl) (Nat.le_of_ble_eq_true rfl) (v := .long (S.2.2.1 1001 a)) rfl (pc' := 11) rfl (Nat.le_of_ble_eq_true rfl) (Nat.le_of_ble_eq_true rfl) ?_
    refine am_steps ok_Po_canMoveBy 3 (x' := (14, [some (.ref a), some (.long b), none], [.ref a, .long ((S.2.2.1 1001 a) + b)], h0, 0, 0)) rfl (Nat.le_of_ble_eq_true rfl) (Nat.le_of_ble_eq_true rfl) ?_
    refine hr_get ok_Po_canMoveBy rfl hR (kd := 10) ha rfl (Nat.le_of_ble_eq_true rfl) (Nat.le_of_ble_eq_true rfl) (v := .long (S.2.2.1 1003 a)) rfl (pc' := 17) rfl (Nat.le_of_ble_eq_true rfl) (Nat.le_of_ble_eq_true rfl) ?_
    refine am_steps ok_Po_canMoveBy 2 (x' := (if ((lg_cmp ((S.2.2.1 1001 a) + b) (S.2.2.1 1003 a)) : Int32) < 0 then 25 else 21, [some (.ref a), some (.long b), none], [], h0, 0, 0)) rfl (Nat.le_of_ble_eq_true rfl) (Nat.le_of_ble_eq_true rfl) ?_
    refine am_if (fun hc2 => ?_) (fun hc2 => ?_)
    · rw [if_pos hc2] at hd
      refine am_steps ok_Po_canMoveBy 1 (x' := (26, [some (.ref a), some (.long b), none], [.int 0], h0, 0, 0)) rfl (Nat.le_of_ble_eq_true rfl) (Nat.le_of_ble_eq_true rfl) ?_
      cases hd; exact am_ret ok_Po_canMoveBy rfl (Nat.le_of_ble_eq_true rfl) (Nat.le_of_ble_eq_true rfl) ⟨rfl, rfl⟩
    · rw [if_neg hc2] at hd
      refine am_steps ok_Po_canMoveBy 2 (x' := (26, [some (.ref a), some (.long b), none], [.int 1], h0, 0, 0)) rfl (Nat.le_of_ble_eq_true rfl) (Nat.le_of_ble_eq_true rfl) ?_
      cases hd; exact am_ret ok_Po_canMoveBy rfl (Nat.le_of_ble_eq_true rfl) (Nat.le_of_ble_eq_true rfl) ⟨rfl, rfl⟩
