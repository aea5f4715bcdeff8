/-! Methods of the reference as functions of its state. -/
def d_Mo_limitFault  (s : mS) : Option (Int32) := (d_Mo_memberAt 15 s).bind fun q1 => (if ((s.1 5) : Int32) = 0 then (some 8) else (if (q1 : Int32) = 0 then (some 8) else (if ¬ (q1 : Int32) = (s.1 5) then ((am_ix ((256 * (s.1 5)) + q1) 65536).bind fun j15 => ((d_Mo_number 19 15 s).bind fun q18 => (if ((lg_cmp (s.2.2.2 37 j15) q18) : Int32) ≤ 0 then (if (0 : Int32) ≤ (lg_cmp (s.2.2.2 38 j15) 0) then (some 0) else (if ¬ ((s.1 25) : Int32) = 2000 then (some 0) else (some 12))) else (some 9)))) else (some 8))))
set_option maxHeartbeats 4000000 in
set_option maxRecDepth 100000 in
theorem k_Mo_limitFault  (s : mS) (h0 : am_H) (hM : RM s h0) (q : Int32) (hd : d_Mo_limitFault  s = some q) : am_Me am_Pr none 2 49 0 0 47 [.ref 22] h0 (am_is (some (.int q)) h0) := by
  refine am_enter (d := hd_Mo_limitFault) rfl (by decide +kernel) (Nat.le_of_ble_eq_true rfl) ?_
  show am_S _ _ _ _ _ _ _ (0, [some (.ref 22), none], [], h0, 0, 0) _
  unfold d_Mo_limitFault at hd
  refine am_steps ok_Mo_limitFault 2 (x' := (3, [some (.ref 22), none], [.int 15, .ref 22], h0, 0, 0)) rfl (Nat.le_of_ble_eq_true rfl) (Nat.le_of_ble_eq_true rfl) ?_
  obtain ⟨q1, hq2, hd3⟩ := Option.bind_eq_some_iff.mp hd; clear hd; have hd := hd3; clear hd3
  refine ar_cv ok_Mo_limitFault hk_Mo_memberAt rfl rfl (As := [.int 15]) (ad := 22) (rest := []) rfl rfl hM.1 (Nat.le_of_ble_eq_true rfl) (k_Mo_memberAt 15 s h0 hM q1 hq2) (Nat.le_of_ble_eq_true rfl) (Nat.le_of_ble_eq_true rfl) (Nat.le_of_ble_eq_true rfl) (Nat.le_of_ble_eq_true rfl) (pc' := 6) rfl (fun r4 h6 z5 => ?_)
  obtain ⟨z10, z11⟩ := z5; subst z10; rw [z11]
  show am_S _ _ _ _ _ _ _ (6, [some (.ref 22), none], [.int q1], h0, 0, 0) _
  refine am_steps ok_Mo_limitFault 2 (x' := (8, [some (.ref 22), some (.int q1)], [.ref 22], h0, 0, 0)) rfl (Nat.le_of_ble_eq_true rfl) (Nat.le_of_ble_eq_true rfl) ?_
  refine mr_get ok_Mo_limitFault rfl hM (v := .int (s.1 5)) rfl (pc' := 11) rfl (Nat.le_of_ble_eq_true rfl) (Nat.le_of_ble_eq_true rfl) ?_
  refine am_steps ok_Mo_limitFault 1 (x' := (if ((s.1 5) : Int32) = 0 then 26 else 14, [some (.ref 22), some (.int q1)], [], h0, 0, 0)) rfl (Nat.le_of_ble_eq_true rfl) (Nat.le_of_ble_eq_true rfl) ?_
  refine am_if (fun hc12 => ?_) (fun hc12 => ?_)
  · rw [if_pos hc12] at hd
    refine am_steps ok_Mo_limitFault 1 (x' := (28, [some (.ref 22), some (.int q1)], [.int 8], h0, 0, 0)) rfl (Nat.le_of_ble_eq_true rfl) (Nat.le_of_ble_eq_true rfl) ?_
    cases hd; exact am_ret ok_Mo_limitFault rfl (Nat.le_of_ble_eq_true rfl) (Nat.le_of_ble_eq_true rfl) ⟨rfl, rfl⟩
  · rw [if_neg hc12] at hd
    refine am_steps ok_Mo_limitFault 2 (x' := (if (q1 : Int32) = 0 then 26 else 18, [some (.ref 22), some (.int q1)], [], h0, 0, 0)) rfl (Nat.le_of_ble_eq_true rfl) (Nat.le_of_ble_eq_true rfl) ?_
    refine am_if (fun hc13 => ?_) (fun hc13 => ?_)
    · rw [if_pos hc13] at hd
      refine am_steps ok_Mo_limitFault 1 (x' := (28, [some (.ref 22), some (.int q1)], [.int 8], h0, 0, 0)) rfl (Nat.le_of_ble_eq_true rfl) (Nat.le_of_ble_eq_true rfl) ?_
      cases hd; exact am_ret ok_Mo_limitFault rfl (Nat.le_of_ble_eq_true rfl) (Nat.le_of_ble_eq_true rfl) ⟨rfl, rfl⟩
    · rw [if_neg hc13] at hd
      refine am_steps ok_Mo_limitFault 2 (x' := (20, [some (.ref 22), some (.int q1)], [.ref 22, .int q1], h0, 0, 0)) rfl (Nat.le_of_ble_eq_true rfl) (Nat.le_of_ble_eq_true rfl) ?_
      refine mr_get ok_Mo_limitFault rfl hM (v := .int (s.1 5)) rfl (pc' := 23) rfl (Nat.le_of_ble_eq_true rfl) (Nat.le_of_ble_eq_true rfl) ?_
      refine am_steps ok_Mo_limitFault 1 (x' := (if ¬ (q1 : Int32) = (s.1 5) then 29 else 26, [some (.ref 22), some (.int q1)], [], h0, 0, 0)) rfl (Nat.le_of_ble_eq_true rfl) (Nat.le_of_ble_eq_true rfl) ?_
      refine am_if (fun hc14 => ?_) (fun hc14 => ?_)
      · rw [if_pos hc14] at hd
        refine am_steps ok_Mo_limitFault 1 (x' := (30, [some (.ref 22), some (.int q1)], [.ref 22], h0, 0, 0)) rfl (Nat.le_of_ble_eq_true rfl) (Nat.le_of_ble_eq_true rfl) ?_
        refine mr_get ok_Mo_limitFault rfl hM (v := .ref 37) rfl (pc' := 33) rfl (Nat.le_of_ble_eq_true rfl) (Nat.le_of_ble_eq_true rfl) ?_
        refine am_steps ok_Mo_limitFault 2 (x' := (37, [some (.ref 22), some (.int q1)], [.ref 22, .int 256, .ref 37], h0, 0, 0)) rfl (Nat.le_of_ble_eq_true rfl) (Nat.le_of_ble_eq_true rfl) ?_
        refine mr_get ok_Mo_limitFault rfl hM (v := .int (s.1 5)) rfl (pc' := 40) rfl (Nat.le_of_ble_eq_true rfl) (Nat.le_of_ble_eq_true rfl) ?_
        refine am_steps ok_Mo_limitFault 3 (x' := (43, [some (.ref 22), some (.int q1)], [.int ((256 * (s.1 5)) + q1), .ref 37], h0, 0, 0)) rfl (Nat.le_of_ble_eq_true rfl) (Nat.le_of_ble_eq_true rfl) ?_
        obtain ⟨j15, hx16, hd17⟩ := Option.bind_eq_some_iff.mp hd; clear hd; have hd := hd17; clear hd17
        refine mr_lald ok_Mo_limitFault rfl hM (N := 65536) (by decide) hx16 (pc' := 44) rfl (Nat.le_of_ble_eq_true rfl) (Nat.le_of_ble_eq_true rfl) ?_
        refine am_steps ok_Mo_limitFault 3 (x' := (49, [some (.ref 22), some (.int q1)], [.int 15, .int 19, .ref 22, .long (s.2.2.2 37 j15)], h0, 0, 0)) rfl (Nat.le_of_ble_eq_true rfl) (Nat.le_of_ble_eq_true rfl) ?_
        obtain ⟨q18, hq19, hd20⟩ := Option.bind_eq_some_iff.mp hd; clear hd; have hd := hd20; clear hd20
        refine ar_cv ok_Mo_limitFault hk_Mo_number rfl rfl (As := [.int 19, .int 15]) (ad := 22) (rest := [.long (s.2.2.2 37 j15)]) rfl rfl hM.1 (Nat.le_of_ble_eq_true rfl) (k_Mo_number 19 15 s h0 hM q18 hq19) (Nat.le_of_ble_eq_true rfl) (Nat.le_of_ble_eq_true rfl) (Nat.le_of_ble_eq_true rfl) (Nat.le_of_ble_eq_true rfl) (pc' := 52) rfl (fun r21 h23 z22 => ?_)
        obtain ⟨z27, z28⟩ := z22; subst z27; rw [z28]
        show am_S _ _ _ _ _ _ _ (52, [some (.ref 22), some (.int q1)], [.long q18, .long (s.2.2.2 37 j15)], h0, 0, 0) _
        refine am_steps ok_Mo_limitFault 2 (x' := (if ((lg_cmp (s.2.2.2 37 j15) q18) : Int32) ≤ 0 then 59 else 56, [some (.ref 22), some (.int q1)], [], h0, 0, 0)) rfl (Nat.le_of_ble_eq_true rfl) (Nat.le_of_ble_eq_true rfl) ?_
        refine am_if (fun hc29 => ?_) (fun hc29 => ?_)
        · rw [if_pos hc29] at hd
          refine am_steps ok_Mo_limitFault 1 (x' := (60, [some (.ref 22), some (.int q1)], [.ref 22], h0, 0, 0)) rfl (Nat.le_of_ble_eq_true rfl) (Nat.le_of_ble_eq_true rfl) ?_
          refine mr_get ok_Mo_limitFault rfl hM (v := .ref 38) rfl (pc' := 63) rfl (Nat.le_of_ble_eq_true rfl) (Nat.le_of_ble_eq_true rfl) ?_
          refine am_steps ok_Mo_limitFault 2 (x' := (67, [some (.ref 22), some (.int q1)], [.ref 22, .int 256, .ref 38], h0, 0, 0)) rfl (Nat.le_of_ble_eq_true rfl) (Nat.le_of_ble_eq_true rfl) ?_
          refine mr_get ok_Mo_limitFault rfl hM (v := .int (s.1 5)) rfl (pc' := 70) rfl (Nat.le_of_ble_eq_true rfl) (Nat.le_of_ble_eq_true rfl) ?_
          refine am_steps ok_Mo_limitFault 3 (x' := (73, [some (.ref 22), some (.int q1)], [.int ((256 * (s.1 5)) + q1), .ref 38], h0, 0, 0)) rfl (Nat.le_of_ble_eq_true rfl) (Nat.le_of_ble_eq_true rfl) ?_
          refine mr_lald ok_Mo_limitFault rfl hM (N := 65536) (by decide) hx16 (pc' := 74) rfl (Nat.le_of_ble_eq_true rfl) (Nat.le_of_ble_eq_true rfl) ?_
          refine am_steps ok_Mo_limitFault 3 (x' := (if (0 : Int32) ≤ (lg_cmp (s.2.2.2 38 j15) 0) then 94 else 79, [some (.ref 22), some (.int q1)], [], h0, 0, 0)) rfl (Nat.le_of_ble_eq_true rfl) (Nat.le_of_ble_eq_true rfl) ?_
          refine am_if (fun hc30 => ?_) (fun hc30 => ?_)
          · rw [if_pos hc30] at hd
            refine am_steps ok_Mo_limitFault 1 (x' := (95, [some (.ref 22), some (.int q1)], [.int 0], h0, 0, 0)) rfl (Nat.le_of_ble_eq_true rfl) (Nat.le_of_ble_eq_true rfl) ?_
            cases hd; exact am_ret ok_Mo_limitFault rfl (Nat.le_of_ble_eq_true rfl) (Nat.le_of_ble_eq_true rfl) ⟨rfl, rfl⟩
          · rw [if_neg hc30] at hd
            refine am_steps ok_Mo_limitFault 1 (x' := (80, [some (.ref 22), some (.int q1)], [.ref 22], h0, 0, 0)) rfl (Nat.le_of_ble_eq_true rfl) (Nat.le_of_ble_eq_true rfl) ?_
            refine mr_get ok_Mo_limitFault rfl hM (v := .int (s.1 25)) rfl (pc' := 83) rfl (Nat.le_of_ble_eq_true rfl) (Nat.le_of_ble_eq_true rfl) ?_
            refine am_steps ok_Mo_limitFault 2 (x' := (if ¬ ((s.1 25) : Int32) = 2000 then 94 else 89, [some (.ref 22), some (.int q1)], [], h0, 0, 0)) rfl (Nat.le_of_ble_eq_true rfl) (Nat.le_of_ble_eq_true rfl) ?_
            refine am_if (fun hc31 => ?_) (fun hc31 => ?_)
            · rw [if_pos hc31] at hd
              refine am_steps ok_Mo_limitFault 1 (x' := (95, [some (.ref 22), some (.int q1)], [.int 0], h0, 0, 0)) rfl (Nat.le_of_ble_eq_true rfl) (Nat.le_of_ble_eq_true rfl) ?_
              cases hd; exact am_ret ok_Mo_limitFault rfl (Nat.le_of_ble_eq_true rfl) (Nat.le_of_ble_eq_true rfl) ⟨rfl, rfl⟩
            · rw [if_neg hc31] at hd
              refine am_steps ok_Mo_limitFault 2 (x' := (95, [some (.ref 22), some (.int q1)], [.int 12], h0, 0, 0)) rfl (Nat.le_of_ble_eq_true rfl) (Nat.le_of_ble_eq_true rfl) ?_
              cases hd; exact am_ret ok_Mo_limitFault rfl (Nat.le_of_ble_eq_true rfl) (Nat.le_of_ble_eq_true rfl) ⟨rfl, rfl⟩
        · rw [if_neg hc29] at hd
          refine am_steps ok_Mo_limitFault 1 (x' := (58, [some (.ref 22), some (.int q1)], [.int 9], h0, 0, 0)) rfl (Nat.le_of_ble_eq_true rfl) (Nat.le_of_ble_eq_true rfl) ?_
          cases hd; exact am_ret ok_Mo_limitFault rfl (Nat.le_of_ble_eq_true rfl) (Nat.le_of_ble_eq_true rfl) ⟨rfl, rfl⟩
      · rw [if_neg hc14] at hd
        refine am_steps ok_Mo_limitFault 1 (x' := (28, [some (.ref 22), some (.int q1)], [.int 8], h0, 0, 0)) rfl (Nat.le_of_ble_eq_true rfl) (Nat.le_of_ble_eq_true rfl) ?_
        cases hd; exact am_ret ok_Mo_limitFault rfl (Nat.le_of_ble_eq_true rfl) (Nat.le_of_ble_eq_true rfl) ⟨rfl, rfl⟩
def d_Mo_pledgeFault  (s : mS) : Option (Int32 × mS) := (d_Mo_assetAt 15 s).bind fun q1 => ((d_Mo_number 18 15 s).bind fun q12 => (if ((s.1 5) : Int32) = 0 then (some (8, s)) else ((am_ix q1 64).bind fun j24 => (if ¬ ((s.2.2.1 28 j24) : Int32) = 0 then (some (8, s)) else (if ((lg_cmp q12 0) : Int32) = 0 then (some (8, s)) else (if ¬ ((s.1 4) : Int32) = 12 then (if ¬ ((s.1 4) : Int32) = 11 then ((am_ix ((64 * (s.1 5)) + q1) 16384).bind fun j31 => ((if ¬ ((s.1 4) : Int32) = 11 then (some ((s.2.2.2 32 j31) - q12)) else (some ((s.2.2.2 32 j31) + q12))).bind fun (u34 : Int64) => ((d_Mo_isBelow (s.1 5) (mB s 32 j31 u34)).bind fun q42 => ((if ¬ ((s.1 4) : Int32) = 11 then (some 0) else ((d_Mo_allCredit  (mB s 32 j31 u34)).bind fun q64 => (if ((lg_cmp q64 (Int64.ofNat 4000000000000000000)) : Int32) ≤ 0 then (some 0) else (some 1)))).bind fun (u53 : Int32) => (if (q42 : Int32) = 0 then (if (u53 : Int32) = 0 then (some (0, (mB (mB s 32 j31 u34) 32 j31 (s.2.2.2 32 j31)))) else (some (10, (mB (mB s 32 j31 u34) 32 j31 (s.2.2.2 32 j31))))) else (some (9, (mB (mB s 32 j31 u34) 32 j31 (s.2.2.2 32 j31))))))))) else ((am_ix ((64 * (s.1 5)) + q1) 16384).bind fun j77 => (if ((lg_cmp ((s.2.2.2 32 j77) + q12) (s.2.2.2 31 j77)) : Int32) ≤ 0 then ((if ¬ ((s.1 4) : Int32) = 11 then (some ((s.2.2.2 32 j77) - q12)) else (some ((s.2.2.2 32 j77) + q12))).bind fun (u81 : Int64) => ((d_Mo_isBelow (s.1 5) (mB s 32 j77 u81)).bind fun q89 => ((if ¬ ((s.1 4) : Int32) = 11 then (some 0) else ((d_Mo_allCredit  (mB s 32 j77 u81)).bind fun q111 => (if ((lg_cmp q111 (Int64.ofNat 4000000000000000000)) : Int32) ≤ 0 then (some 0) else (some 1)))).bind fun (u100 : Int32) => (if (q89 : Int32) = 0 then (if (u100 : Int32) = 0 then (some (0, (mB (mB s 32 j77 u81) 32 j77 (s.2.2.2 32 j77)))) else (some (10, (mB (mB s 32 j77 u81) 32 j77 (s.2.2.2 32 j77))))) else (some (9, (mB (mB s 32 j77 u81) 32 j77 (s.2.2.2 32 j77)))))))) else (some (9, s))))) else ((am_ix ((64 * (s.1 5)) + q1) 16384).bind fun j124 => (if ((lg_cmp q12 (s.2.2.2 32 j124)) : Int32) ≤ 0 then (if ¬ ((s.1 4) : Int32) = 11 then ((if ¬ ((s.1 4) : Int32) = 11 then (some ((s.2.2.2 32 j124) - q12)) else (some ((s.2.2.2 32 j124) + q12))).bind fun (u129 : Int64) => ((d_Mo_isBelow (s.1 5) (mB s 32 j124 u129)).bind fun q137 => ((if ¬ ((s.1 4) : Int32) = 11 then (some 0) else ((d_Mo_allCredit  (mB s 32 j124 u129)).bind fun q159 => (if ((lg_cmp q159 (Int64.ofNat 4000000000000000000)) : Int32) ≤ 0 then (some 0) else (some 1)))).bind fun (u148 : Int32) => (if (q137 : Int32) = 0 then (if (u148 : Int32) = 0 then (some (0, (mB (mB s 32 j124 u129) 32 j124 (s.2.2.2 32 j124)))) else (some (10, (mB (mB s 32 j124 u129) 32 j124 (s.2.2.2 32 j124))))) else (some (9, (mB (mB s 32 j124 u129) 32 j124 (s.2.2.2 32 j124)))))))) else (if ((lg_cmp ((s.2.2.2 32 j124) + q12) (s.2.2.2 31 j124)) : Int32) ≤ 0 then ((if ¬ ((s.1 4) : Int32) = 11 then (some ((s.2.2.2 32 j124) - q12)) else (some ((s.2.2.2 32 j124) + q12))).bind fun (u173 : Int64) => ((d_Mo_isBelow (s.1 5) (mB s 32 j124 u173)).bind fun q181 => ((if ¬ ((s.1 4) : Int32) = 11 then (some 0) else ((d_Mo_allCredit  (mB s 32 j124 u173)).bind fun q203 => (if ((lg_cmp q203 (Int64.ofNat 4000000000000000000)) : Int32) ≤ 0 then (some 0) else (some 1)))).bind fun (u192 : Int32) => (if (q181 : Int32) = 0 then (if (u192 : Int32) = 0 then (some (0, (mB (mB s 32 j124 u173) 32 j124 (s.2.2.2 32 j124)))) else (some (10, (mB (mB s 32 j124 u173) 32 j124 (s.2.2.2 32 j124))))) else (some (9, (mB (mB s 32 j124 u173) 32 j124 (s.2.2.2 32 j124)))))))) else (some (9, s)))) else (some (8, s))))))))))
set_option maxHeartbeats 4000000 in
set_option maxRecDepth 100000 in
theorem k_Mo_pledgeFault  (s : mS) (h0 : am_H) (hM : RM s h0) (q : Int32 × mS) (hd : d_Mo_pledgeFault  s = some q) : am_Me am_Pr none 3 80 0 0 48 [.ref 22] h0 (mQr (.int q.1) q.2 h0) := by
  refine am_enter (d := hd_Mo_pledgeFault) rfl (by decide +kernel) (Nat.le_of_ble_eq_true rfl) ?_
  show am_S _ _ _ _ _ _ _ (0, [some (.ref 22), none, none, none, none, none, none, none, none], [], h0, 0, 0) _
  unfold d_Mo_pledgeFault at hd
  refine am_steps ok_Mo_pledgeFault 2 (x' := (3, [some (.ref 22), none, none, none, none, none, none, none, none], [.int 15, .ref 22], h0, 0, 0)) rfl (Nat.le_of_ble_eq_true rfl) (Nat.le_of_ble_eq_true rfl) ?_
  obtain ⟨q1, hq2, hd3⟩ := Option.bind_eq_some_iff.mp hd; clear hd; have hd := hd3; clear hd3
  refine ar_cv ok_Mo_pledgeFault hk_Mo_assetAt rfl rfl (As := [.int 15]) (ad := 22) (rest := []) rfl rfl hM.1 (Nat.le_of_ble_eq_true rfl) (k_Mo_assetAt 15 s h0 hM q1 hq2) (Nat.le_of_ble_eq_true rfl) (Nat.le_of_ble_eq_true rfl) (Nat.le_of_ble_eq_true rfl) (Nat.le_of_ble_eq_true rfl) (pc' := 6) rfl (fun r4 h6 z5 => ?_)
  obtain ⟨z10, z11⟩ := z5; subst z10; rw [z11]
  show am_S _ _ _ _ _ _ _ (6, [some (.ref 22), none, none, none, none, none, none, none, none], [.int q1], h0, 0, 0) _
  refine am_steps ok_Mo_pledgeFault 3 (x' := (10, [some (.ref 22), some (.int q1), none, none, none, none, none, none, none], [.ref 22, .int 64], h0, 0, 0)) rfl (Nat.le_of_ble_eq_true rfl) (Nat.le_of_ble_eq_true rfl) ?_
  refine mr_get ok_Mo_pledgeFault rfl hM (v := .int (s.1 5)) rfl (pc' := 13) rfl (Nat.le_of_ble_eq_true rfl) (Nat.le_of_ble_eq_true rfl) ?_
  refine am_steps ok_Mo_pledgeFault 7 (x' := (22, [some (.ref 22), some (.int q1), some (.int ((64 * (s.1 5)) + q1)), none, none, none, none, none, none], [.int 15, .int 18, .ref 22], h0, 0, 0)) rfl (Nat.le_of_ble_eq_true rfl) (Nat.le_of_ble_eq_true rfl) ?_
  obtain ⟨q12, hq13, hd14⟩ := Option.bind_eq_some_iff.mp hd; clear hd; have hd := hd14; clear hd14
  refine ar_cv ok_Mo_pledgeFault hk_Mo_number rfl rfl (As := [.int 18, .int 15]) (ad := 22) (rest := []) rfl rfl hM.1 (Nat.le_of_ble_eq_true rfl) (k_Mo_number 18 15 s h0 hM q12 hq13) (Nat.le_of_ble_eq_true rfl) (Nat.le_of_ble_eq_true rfl) (Nat.le_of_ble_eq_true rfl) (Nat.le_of_ble_eq_true rfl) (pc' := 25) rfl (fun r15 h17 z16 => ?_)
  obtain ⟨z21, z22⟩ := z16; subst z21; rw [z22]
  show am_S _ _ _ _ _ _ _ (25, [some (.ref 22), some (.int q1), some (.int ((64 * (s.1 5)) + q1)), none, none, none, none, none, none], [.long q12], h0, 0, 0) _
  refine am_steps ok_Mo_pledgeFault 2 (x' := (27, [some (.ref 22), some (.int q1), some (.int ((64 * (s.1 5)) + q1)), some (.long q12), none, none, none, none, none], [.ref 22], h0, 0, 0)) rfl (Nat.le_of_ble_eq_true rfl) (Nat.le_of_ble_eq_true rfl) ?_
  refine mr_get ok_Mo_pledgeFault rfl hM (v := .int (s.1 5)) rfl (pc' := 30) rfl (Nat.le_of_ble_eq_true rfl) (Nat.le_of_ble_eq_true rfl) ?_
  refine am_steps ok_Mo_pledgeFault 1 (x' := (if ((s.1 5) : Int32) = 0 then 68 else 33, [some (.ref 22), some (.int q1), some (.int ((64 * (s.1 5)) + q1)), some (.long q12), none, none, none, none, none], [], h0, 0, 0)) rfl (Nat.le_of_ble_eq_true rfl) (Nat.le_of_ble_eq_true rfl) ?_
  refine am_if (fun hc23 => ?_) (fun hc23 => ?_)
  · rw [if_pos hc23] at hd
    refine am_steps ok_Mo_pledgeFault 1 (x' := (70, [some (.ref 22), some (.int q1), some (.int ((64 * (s.1 5)) + q1)), some (.long q12), none, none, none, none, none], [.int 8], h0, 0, 0)) rfl (Nat.le_of_ble_eq_true rfl) (Nat.le_of_ble_eq_true rfl) ?_
    cases hd; exact am_ret ok_Mo_pledgeFault rfl (Nat.le_of_ble_eq_true rfl) (Nat.le_of_ble_eq_true rfl) ⟨rfl, hM, (mF.rf)⟩
  · rw [if_neg hc23] at hd
    refine am_steps ok_Mo_pledgeFault 1 (x' := (34, [some (.ref 22), some (.int q1), some (.int ((64 * (s.1 5)) + q1)), some (.long q12), none, none, none, none, none], [.ref 22], h0, 0, 0)) rfl (Nat.le_of_ble_eq_true rfl) (Nat.le_of_ble_eq_true rfl) ?_
    refine mr_get ok_Mo_pledgeFault rfl hM (v := .ref 28) rfl (pc' := 37) rfl (Nat.le_of_ble_eq_true rfl) (Nat.le_of_ble_eq_true rfl) ?_
    refine am_steps ok_Mo_pledgeFault 1 (x' := (38, [some (.ref 22), some (.int q1), some (.int ((64 * (s.1 5)) + q1)), some (.long q12), none, none, none, none, none], [.int q1, .ref 28], h0, 0, 0)) rfl (Nat.le_of_ble_eq_true rfl) (Nat.le_of_ble_eq_true rfl) ?_
    obtain ⟨j24, hx25, hd26⟩ := Option.bind_eq_some_iff.mp hd; clear hd; have hd := hd26; clear hd26
    refine mr_bald ok_Mo_pledgeFault rfl hM (N := 64) (by decide) (Or.inr rfl) hx25 (pc' := 39) rfl (Nat.le_of_ble_eq_true rfl) (Nat.le_of_ble_eq_true rfl) ?_
    refine am_steps ok_Mo_pledgeFault 1 (x' := (if ¬ ((s.2.2.1 28 j24) : Int32) = 0 then 68 else 42, [some (.ref 22), some (.int q1), some (.int ((64 * (s.1 5)) + q1)), some (.long q12), none, none, none, none, none], [], h0, 0, 0)) rfl (Nat.le_of_ble_eq_true rfl) (Nat.le_of_ble_eq_true rfl) ?_
    refine am_if (fun hc27 => ?_) (fun hc27 => ?_)
    · rw [if_pos hc27] at hd
      refine am_steps ok_Mo_pledgeFault 1 (x' := (70, [some (.ref 22), some (.int q1), some (.int ((64 * (s.1 5)) + q1)), some (.long q12), none, none, none, none, none], [.int 8], h0, 0, 0)) rfl (Nat.le_of_ble_eq_true rfl) (Nat.le_of_ble_eq_true rfl) ?_
      cases hd; exact am_ret ok_Mo_pledgeFault rfl (Nat.le_of_ble_eq_true rfl) (Nat.le_of_ble_eq_true rfl) ⟨rfl, hM, (mF.rf)⟩
    · rw [if_neg hc27] at hd
      refine am_steps ok_Mo_pledgeFault 4 (x' := (if ((lg_cmp q12 0) : Int32) = 0 then 68 else 48, [some (.ref 22), some (.int q1), some (.int ((64 * (s.1 5)) + q1)), some (.long q12), none, none, none, none, none], [], h0, 0, 0)) rfl (Nat.le_of_ble_eq_true rfl) (Nat.le_of_ble_eq_true rfl) ?_
      refine am_if (fun hc28 => ?_) (fun hc28 => ?_)
      · rw [if_pos hc28] at hd
        refine am_steps ok_Mo_pledgeFault 1 (x' := (70, [some (.ref 22), some (.int q1), some (.int ((64 * (s.1 5)) + q1)), some (.long q12), none, none, none, none, none], [.int 8], h0, 0, 0)) rfl (Nat.le_of_ble_eq_true rfl) (Nat.le_of_ble_eq_true rfl) ?_
        cases hd; exact am_ret ok_Mo_pledgeFault rfl (Nat.le_of_ble_eq_true rfl) (Nat.le_of_ble_eq_true rfl) ⟨rfl, hM, (mF.rf)⟩
      · rw [if_neg hc28] at hd
        refine am_steps ok_Mo_pledgeFault 1 (x' := (49, [some (.ref 22), some (.int q1), some (.int ((64 * (s.1 5)) + q1)), some (.long q12), none, none, none, none, none], [.ref 22], h0, 0, 0)) rfl (Nat.le_of_ble_eq_true rfl) (Nat.le_of_ble_eq_true rfl) ?_
        refine mr_get ok_Mo_pledgeFault rfl hM (v := .int (s.1 4)) rfl (pc' := 52) rfl (Nat.le_of_ble_eq_true rfl) (Nat.le_of_ble_eq_true rfl) ?_
        refine am_steps ok_Mo_pledgeFault 2 (x' := (if ¬ ((s.1 4) : Int32) = 12 then 71 else 57, [some (.ref 22), some (.int q1), some (.int ((64 * (s.1 5)) + q1)), some (.long q12), none, none, none, none, none], [], h0, 0, 0)) rfl (Nat.le_of_ble_eq_true rfl) (Nat.le_of_ble_eq_true rfl) ?_
        refine am_if (fun hc29 => ?_) (fun hc29 => ?_)
        · rw [if_pos hc29] at hd
          refine am_steps ok_Mo_pledgeFault 1 (x' := (72, [some (.ref 22), some (.int q1), some (.int ((64 * (s.1 5)) + q1)), some (.long q12), none, none, none, none, none], [.ref 22], h0, 0, 0)) rfl (Nat.le_of_ble_eq_true rfl) (Nat.le_of_ble_eq_true rfl) ?_
          refine mr_get ok_Mo_pledgeFault rfl hM (v := .int (s.1 4)) rfl (pc' := 75) rfl (Nat.le_of_ble_eq_true rfl) (Nat.le_of_ble_eq_true rfl) ?_
          refine am_steps ok_Mo_pledgeFault 2 (x' := (if ¬ ((s.1 4) : Int32) = 11 then 101 else 80, [some (.ref 22), some (.int q1), some (.int ((64 * (s.1 5)) + q1)), some (.long q12), none, none, none, none, none], [], h0, 0, 0)) rfl (Nat.le_of_ble_eq_true rfl) (Nat.le_of_ble_eq_true rfl) ?_
          refine am_if (fun hc30 => ?_) (fun hc30 => ?_)
          · rw [if_pos hc30] at hd
            refine am_steps ok_Mo_pledgeFault 1 (x' := (102, [some (.ref 22), some (.int q1), some (.int ((64 * (s.1 5)) + q1)), some (.long q12), none, none, none, none, none], [.ref 22], h0, 0, 0)) rfl (Nat.le_of_ble_eq_true rfl) (Nat.le_of_ble_eq_true rfl) ?_
            refine mr_get ok_Mo_pledgeFault rfl hM (v := .ref 32) rfl (pc' := 105) rfl (Nat.le_of_ble_eq_true rfl) (Nat.le_of_ble_eq_true rfl) ?_
            refine am_steps ok_Mo_pledgeFault 1 (x' := (106, [some (.ref 22), some (.int q1), some (.int ((64 * (s.1 5)) + q1)), some (.long q12), none, none, none, none, none], [.int ((64 * (s.1 5)) + q1), .ref 32], h0, 0, 0)) rfl (Nat.le_of_ble_eq_true rfl) (Nat.le_of_ble_eq_true rfl) ?_
            obtain ⟨j31, hx32, hd33⟩ := Option.bind_eq_some_iff.mp hd; clear hd; have hd := hd33; clear hd33
            refine mr_lald ok_Mo_pledgeFault rfl hM (N := 16384) (by decide) hx32 (pc' := 107) rfl (Nat.le_of_ble_eq_true rfl) (Nat.le_of_ble_eq_true rfl) ?_
            refine am_steps ok_Mo_pledgeFault 2 (x' := (110, [some (.ref 22), some (.int q1), some (.int ((64 * (s.1 5)) + q1)), some (.long q12), none, some (.long (s.2.2.2 32 j31)), none, none, none], [.ref 22], h0, 0, 0)) rfl (Nat.le_of_ble_eq_true rfl) (Nat.le_of_ble_eq_true rfl) ?_
            refine mr_get ok_Mo_pledgeFault rfl hM (v := .ref 32) rfl (pc' := 113) rfl (Nat.le_of_ble_eq_true rfl) (Nat.le_of_ble_eq_true rfl) ?_
            refine am_steps ok_Mo_pledgeFault 2 (x' := (115, [some (.ref 22), some (.int q1), some (.int ((64 * (s.1 5)) + q1)), some (.long q12), none, some (.long (s.2.2.2 32 j31)), none, none, none], [.ref 22, .int ((64 * (s.1 5)) + q1), .ref 32], h0, 0, 0)) rfl (Nat.le_of_ble_eq_true rfl) (Nat.le_of_ble_eq_true rfl) ?_
            refine mr_get ok_Mo_pledgeFault rfl hM (v := .int (s.1 4)) rfl (pc' := 118) rfl (Nat.le_of_ble_eq_true rfl) (Nat.le_of_ble_eq_true rfl) ?_
            refine am_steps ok_Mo_pledgeFault 2 (x' := (if ¬ ((s.1 4) : Int32) = 11 then 130 else 123, [some (.ref 22), some (.int q1), some (.int ((64 * (s.1 5)) + q1)), some (.long q12), none, some (.long (s.2.2.2 32 j31)), none, none, none], [.int ((64 * (s.1 5)) + q1), .ref 32], h0, 0, 0)) rfl (Nat.le_of_ble_eq_true rfl) (Nat.le_of_ble_eq_true rfl) ?_
            obtain ⟨u34, hA36, hB37⟩ := Option.bind_eq_some_iff.mp hd; clear hd
            have K35 : am_S am_Pr none 3 80 0 0 48 (134, [some (.ref 22), none, some (.int ((64 * (s.1 5)) + q1)), none, none, some (.long (s.2.2.2 32 j31)), none, none, none], [.long u34, .int ((64 * (s.1 5)) + q1), .ref 32], h0, 0, 0) (mQr (.int q.1) q.2 h0) := by
              have hd := hB37
              refine mr_last ok_Mo_pledgeFault rfl hM (N := 16384) (by decide) hx32 (pc' := 135) rfl (Nat.le_of_ble_eq_true rfl) (Nat.le_of_ble_eq_true rfl) (fun h38 hM39 g41 => ?_)
              have f40 := mF.tr (mF.rf) g41
              refine am_steps ok_Mo_pledgeFault 2 (x' := (137, [some (.ref 22), none, some (.int ((64 * (s.1 5)) + q1)), none, none, some (.long (s.2.2.2 32 j31)), none, none, none], [.ref 22, .ref 22], h38, 0, 0)) rfl (Nat.le_of_ble_eq_true rfl) (Nat.le_of_ble_eq_true rfl) ?_
              refine mr_get ok_Mo_pledgeFault rfl hM39 (v := .int (s.1 5)) rfl (pc' := 140) rfl (Nat.le_of_ble_eq_true rfl) (Nat.le_of_ble_eq_true rfl) ?_
              obtain ⟨q42, hq43, hd44⟩ := Option.bind_eq_some_iff.mp hd; clear hd; have hd := hd44; clear hd44
              refine ar_cv ok_Mo_pledgeFault hk_Mo_isBelow rfl rfl (As := [.int (s.1 5)]) (ad := 22) (rest := []) rfl rfl hM39.1 (Nat.le_of_ble_eq_true rfl) (k_Mo_isBelow (s.1 5) (mB s 32 j31 u34) h38 hM39 q42 hq43) (Nat.le_of_ble_eq_true rfl) (Nat.le_of_ble_eq_true rfl) (Nat.le_of_ble_eq_true rfl) (Nat.le_of_ble_eq_true rfl) (pc' := 143) rfl (fun r45 h47 z46 => ?_)
              obtain ⟨z51, z52⟩ := z46; subst z51; rw [z52]
              show am_S _ _ _ _ _ _ _ (143, [some (.ref 22), none, some (.int ((64 * (s.1 5)) + q1)), none, none, some (.long (s.2.2.2 32 j31)), none, none, none], [.int q42], h38, 0, 0) _
              refine am_steps ok_Mo_pledgeFault 2 (x' := (146, [some (.ref 22), none, some (.int ((64 * (s.1 5)) + q1)), none, none, some (.long (s.2.2.2 32 j31)), none, some (.int q42), none], [.ref 22], h38, 0, 0)) rfl (Nat.le_of_ble_eq_true rfl) (Nat.le_of_ble_eq_true rfl) ?_
              refine mr_get ok_Mo_pledgeFault rfl hM39 (v := .int (s.1 4)) rfl (pc' := 149) rfl (Nat.le_of_ble_eq_true rfl) (Nat.le_of_ble_eq_true rfl) ?_
              refine am_steps ok_Mo_pledgeFault 2 (x' := (if ¬ ((s.1 4) : Int32) = 11 then 169 else 154, [some (.ref 22), none, some (.int ((64 * (s.1 5)) + q1)), none, none, some (.long (s.2.2.2 32 j31)), none, some (.int q42), none], [], h38, 0, 0)) rfl (Nat.le_of_ble_eq_true rfl) (Nat.le_of_ble_eq_true rfl) ?_
              obtain ⟨u53, hA55, hB56⟩ := Option.bind_eq_some_iff.mp hd; clear hd
              have K54 : am_S am_Pr none 3 80 0 0 48 (170, [some (.ref 22), none, some (.int ((64 * (s.1 5)) + q1)), none, none, some (.long (s.2.2.2 32 j31)), none, some (.int q42), none], [.int u53], h38, 0, 0) (mQr (.int q.1) q.2 h0) := by
                have hd := hB56
                refine am_steps ok_Mo_pledgeFault 2 (x' := (173, [some (.ref 22), none, some (.int ((64 * (s.1 5)) + q1)), none, none, some (.long (s.2.2.2 32 j31)), none, some (.int q42), some (.int u53)], [.ref 22], h38, 0, 0)) rfl (Nat.le_of_ble_eq_true rfl) (Nat.le_of_ble_eq_true rfl) ?_
                refine mr_get ok_Mo_pledgeFault rfl hM39 (v := .ref 32) rfl (pc' := 176) rfl (Nat.le_of_ble_eq_true rfl) (Nat.le_of_ble_eq_true rfl) ?_
                refine am_steps ok_Mo_pledgeFault 2 (x' := (179, [some (.ref 22), none, some (.int ((64 * (s.1 5)) + q1)), none, none, some (.long (s.2.2.2 32 j31)), none, some (.int q42), some (.int u53)], [.long (s.2.2.2 32 j31), .int ((64 * (s.1 5)) + q1), .ref 32], h38, 0, 0)) rfl (Nat.le_of_ble_eq_true rfl) (Nat.le_of_ble_eq_true rfl) ?_
                refine mr_last ok_Mo_pledgeFault rfl hM39 (N := 16384) (by decide) hx32 (pc' := 180) rfl (Nat.le_of_ble_eq_true rfl) (Nat.le_of_ble_eq_true rfl) (fun h57 hM58 g60 => ?_)
                have f59 := mF.tr f40 g60
                refine am_steps ok_Mo_pledgeFault 2 (x' := (if (q42 : Int32) = 0 then 190 else 185, [some (.ref 22), none, some (.int ((64 * (s.1 5)) + q1)), none, none, some (.long (s.2.2.2 32 j31)), none, some (.int q42), some (.int u53)], [], h57, 0, 0)) rfl (Nat.le_of_ble_eq_true rfl) (Nat.le_of_ble_eq_true rfl) ?_
                refine am_if (fun hc61 => ?_) (fun hc61 => ?_)
                · rw [if_pos hc61] at hd
                  refine am_steps ok_Mo_pledgeFault 2 (x' := (if (u53 : Int32) = 0 then 200 else 195, [some (.ref 22), none, some (.int ((64 * (s.1 5)) + q1)), none, none, some (.long (s.2.2.2 32 j31)), none, some (.int q42), some (.int u53)], [], h57, 0, 0)) rfl (Nat.le_of_ble_eq_true rfl) (Nat.le_of_ble_eq_true rfl) ?_
                  refine am_if (fun hc62 => ?_) (fun hc62 => ?_)
                  · rw [if_pos hc62] at hd
                    refine am_steps ok_Mo_pledgeFault 1 (x' := (201, [some (.ref 22), none, some (.int ((64 * (s.1 5)) + q1)), none, none, some (.long (s.2.2.2 32 j31)), none, some (.int q42), some (.int u53)], [.int 0], h57, 0, 0)) rfl (Nat.le_of_ble_eq_true rfl) (Nat.le_of_ble_eq_true rfl) ?_
                    cases hd; exact am_ret ok_Mo_pledgeFault rfl (Nat.le_of_ble_eq_true rfl) (Nat.le_of_ble_eq_true rfl) ⟨rfl, hM58, f59⟩
                  · rw [if_neg hc62] at hd
                    refine am_steps ok_Mo_pledgeFault 2 (x' := (201, [some (.ref 22), none, some (.int ((64 * (s.1 5)) + q1)), none, none, some (.long (s.2.2.2 32 j31)), none, some (.int q42), some (.int u53)], [.int 10], h57, 0, 0)) rfl (Nat.le_of_ble_eq_true rfl) (Nat.le_of_ble_eq_true rfl) ?_
                    cases hd; exact am_ret ok_Mo_pledgeFault rfl (Nat.le_of_ble_eq_true rfl) (Nat.le_of_ble_eq_true rfl) ⟨rfl, hM58, f59⟩
                · rw [if_neg hc61] at hd
                  refine am_steps ok_Mo_pledgeFault 2 (x' := (201, [some (.ref 22), none, some (.int ((64 * (s.1 5)) + q1)), none, none, some (.long (s.2.2.2 32 j31)), none, some (.int q42), some (.int u53)], [.int 9], h57, 0, 0)) rfl (Nat.le_of_ble_eq_true rfl) (Nat.le_of_ble_eq_true rfl) ?_
                  cases hd; exact am_ret ok_Mo_pledgeFault rfl (Nat.le_of_ble_eq_true rfl) (Nat.le_of_ble_eq_true rfl) ⟨rfl, hM58, f59⟩
              clear hB56; have hd := hA55; clear hA55
              refine am_if (fun hc63 => ?_) (fun hc63 => ?_)
              · rw [if_pos hc63] at hd
                refine am_steps ok_Mo_pledgeFault 1 (x' := (170, [some (.ref 22), none, some (.int ((64 * (s.1 5)) + q1)), none, none, some (.long (s.2.2.2 32 j31)), none, some (.int q42), none], [.int 0], h38, 0, 0)) rfl (Nat.le_of_ble_eq_true rfl) (Nat.le_of_ble_eq_true rfl) ?_
                cases hd; exact K54 
              · rw [if_neg hc63] at hd
                refine am_steps ok_Mo_pledgeFault 1 (x' := (155, [some (.ref 22), none, some (.int ((64 * (s.1 5)) + q1)), none, none, some (.long (s.2.2.2 32 j31)), none, some (.int q42), none], [.ref 22], h38, 0, 0)) rfl (Nat.le_of_ble_eq_true rfl) (Nat.le_of_ble_eq_true rfl) ?_
                obtain ⟨q64, hq65, hd66⟩ := Option.bind_eq_some_iff.mp hd; clear hd; have hd := hd66; clear hd66
                refine ar_cv ok_Mo_pledgeFault hk_Mo_allCredit rfl rfl (As := []) (ad := 22) (rest := []) rfl rfl hM39.1 (Nat.le_of_ble_eq_true rfl) (k_Mo_allCredit  (mB s 32 j31 u34) h38 hM39 q64 hq65) (Nat.le_of_ble_eq_true rfl) (Nat.le_of_ble_eq_true rfl) (Nat.le_of_ble_eq_true rfl) (Nat.le_of_ble_eq_true rfl) (pc' := 158) rfl (fun r67 h69 z68 => ?_)
                obtain ⟨z73, z74⟩ := z68; subst z73; rw [z74]
                show am_S _ _ _ _ _ _ _ (158, [some (.ref 22), none, some (.int ((64 * (s.1 5)) + q1)), none, none, some (.long (s.2.2.2 32 j31)), none, some (.int q42), none], [.long q64], h38, 0, 0) _
                refine am_steps ok_Mo_pledgeFault 3 (x' := (if ((lg_cmp q64 (Int64.ofNat 4000000000000000000)) : Int32) ≤ 0 then 169 else 165, [some (.ref 22), none, some (.int ((64 * (s.1 5)) + q1)), none, none, some (.long (s.2.2.2 32 j31)), none, some (.int q42), none], [], h38, 0, 0)) rfl (Nat.le_of_ble_eq_true rfl) (Nat.le_of_ble_eq_true rfl) ?_
                refine am_if (fun hc75 => ?_) (fun hc75 => ?_)
                · rw [if_pos hc75] at hd
                  refine am_steps ok_Mo_pledgeFault 1 (x' := (170, [some (.ref 22), none, some (.int ((64 * (s.1 5)) + q1)), none, none, some (.long (s.2.2.2 32 j31)), none, some (.int q42), none], [.int 0], h38, 0, 0)) rfl (Nat.le_of_ble_eq_true rfl) (Nat.le_of_ble_eq_true rfl) ?_
                  cases hd; exact K54 
                · rw [if_neg hc75] at hd
                  refine am_steps ok_Mo_pledgeFault 2 (x' := (170, [some (.ref 22), none, some (.int ((64 * (s.1 5)) + q1)), none, none, some (.long (s.2.2.2 32 j31)), none, some (.int q42), none], [.int 1], h38, 0, 0)) rfl (Nat.le_of_ble_eq_true rfl) (Nat.le_of_ble_eq_true rfl) ?_
                  cases hd; exact K54 
            clear hB37; have hd := hA36; clear hA36
            refine am_if (fun hc76 => ?_) (fun hc76 => ?_)
            · rw [if_pos hc76] at hd
              refine am_steps ok_Mo_pledgeFault 3 (x' := (134, [some (.ref 22), some (.int q1), some (.int ((64 * (s.1 5)) + q1)), some (.long q12), none, some (.long (s.2.2.2 32 j31)), none, none, none], [.long ((s.2.2.2 32 j31) - q12), .int ((64 * (s.1 5)) + q1), .ref 32], h0, 0, 0)) rfl (Nat.le_of_ble_eq_true rfl) (Nat.le_of_ble_eq_true rfl) ?_
              refine am_drop 1 ?_
              refine am_drop 3 ?_
              cases hd; exact K35 
            · rw [if_neg hc76] at hd
              refine am_steps ok_Mo_pledgeFault 4 (x' := (134, [some (.ref 22), some (.int q1), some (.int ((64 * (s.1 5)) + q1)), some (.long q12), none, some (.long (s.2.2.2 32 j31)), none, none, none], [.long ((s.2.2.2 32 j31) + q12), .int ((64 * (s.1 5)) + q1), .ref 32], h0, 0, 0)) rfl (Nat.le_of_ble_eq_true rfl) (Nat.le_of_ble_eq_true rfl) ?_
              refine am_drop 1 ?_
              refine am_drop 3 ?_
              cases hd; exact K35 
          · rw [if_neg hc30] at hd
            refine am_steps ok_Mo_pledgeFault 1 (x' := (81, [some (.ref 22), some (.int q1), some (.int ((64 * (s.1 5)) + q1)), some (.long q12), none, none, none, none, none], [.ref 22], h0, 0, 0)) rfl (Nat.le_of_ble_eq_true rfl) (Nat.le_of_ble_eq_true rfl) ?_
            refine mr_get ok_Mo_pledgeFault rfl hM (v := .ref 32) rfl (pc' := 84) rfl (Nat.le_of_ble_eq_true rfl) (Nat.le_of_ble_eq_true rfl) ?_
            refine am_steps ok_Mo_pledgeFault 1 (x' := (85, [some (.ref 22), some (.int q1), some (.int ((64 * (s.1 5)) + q1)), some (.long q12), none, none, none, none, none], [.int ((64 * (s.1 5)) + q1), .ref 32], h0, 0, 0)) rfl (Nat.le_of_ble_eq_true rfl) (Nat.le_of_ble_eq_true rfl) ?_
            obtain ⟨j77, hx78, hd79⟩ := Option.bind_eq_some_iff.mp hd; clear hd; have hd := hd79; clear hd79
            refine mr_lald ok_Mo_pledgeFault rfl hM (N := 16384) (by decide) hx78 (pc' := 86) rfl (Nat.le_of_ble_eq_true rfl) (Nat.le_of_ble_eq_true rfl) ?_
            refine am_steps ok_Mo_pledgeFault 3 (x' := (89, [some (.ref 22), some (.int q1), some (.int ((64 * (s.1 5)) + q1)), some (.long q12), none, none, none, none, none], [.ref 22, .long ((s.2.2.2 32 j77) + q12)], h0, 0, 0)) rfl (Nat.le_of_ble_eq_true rfl) (Nat.le_of_ble_eq_true rfl) ?_
            refine mr_get ok_Mo_pledgeFault rfl hM (v := .ref 31) rfl (pc' := 92) rfl (Nat.le_of_ble_eq_true rfl) (Nat.le_of_ble_eq_true rfl) ?_
            refine am_steps ok_Mo_pledgeFault 1 (x' := (93, [some (.ref 22), some (.int q1), some (.int ((64 * (s.1 5)) + q1)), some (.long q12), none, none, none, none, none], [.int ((64 * (s.1 5)) + q1), .ref 31, .long ((s.2.2.2 32 j77) + q12)], h0, 0, 0)) rfl (Nat.le_of_ble_eq_true rfl) (Nat.le_of_ble_eq_true rfl) ?_
            refine mr_lald ok_Mo_pledgeFault rfl hM (N := 16384) (by decide) hx78 (pc' := 94) rfl (Nat.le_of_ble_eq_true rfl) (Nat.le_of_ble_eq_true rfl) ?_
            refine am_steps ok_Mo_pledgeFault 2 (x' := (if ((lg_cmp ((s.2.2.2 32 j77) + q12) (s.2.2.2 31 j77)) : Int32) ≤ 0 then 101 else 98, [some (.ref 22), some (.int q1), some (.int ((64 * (s.1 5)) + q1)), some (.long q12), none, none, none, none, none], [], h0, 0, 0)) rfl (Nat.le_of_ble_eq_true rfl) (Nat.le_of_ble_eq_true rfl) ?_
            refine am_if (fun hc80 => ?_) (fun hc80 => ?_)
            · rw [if_pos hc80] at hd
              refine am_steps ok_Mo_pledgeFault 1 (x' := (102, [some (.ref 22), some (.int q1), some (.int ((64 * (s.1 5)) + q1)), some (.long q12), none, none, none, none, none], [.ref 22], h0, 0, 0)) rfl (Nat.le_of_ble_eq_true rfl) (Nat.le_of_ble_eq_true rfl) ?_
              refine mr_get ok_Mo_pledgeFault rfl hM (v := .ref 32) rfl (pc' := 105) rfl (Nat.le_of_ble_eq_true rfl) (Nat.le_of_ble_eq_true rfl) ?_
              refine am_steps ok_Mo_pledgeFault 1 (x' := (106, [some (.ref 22), some (.int q1), some (.int ((64 * (s.1 5)) + q1)), some (.long q12), none, none, none, none, none], [.int ((64 * (s.1 5)) + q1), .ref 32], h0, 0, 0)) rfl (Nat.le_of_ble_eq_true rfl) (Nat.le_of_ble_eq_true rfl) ?_
              refine mr_lald ok_Mo_pledgeFault rfl hM (N := 16384) (by decide) hx78 (pc' := 107) rfl (Nat.le_of_ble_eq_true rfl) (Nat.le_of_ble_eq_true rfl) ?_
              refine am_steps ok_Mo_pledgeFault 2 (x' := (110, [some (.ref 22), some (.int q1), some (.int ((64 * (s.1 5)) + q1)), some (.long q12), none, some (.long (s.2.2.2 32 j77)), none, none, none], [.ref 22], h0, 0, 0)) rfl (Nat.le_of_ble_eq_true rfl) (Nat.le_of_ble_eq_true rfl) ?_
              refine mr_get ok_Mo_pledgeFault rfl hM (v := .ref 32) rfl (pc' := 113) rfl (Nat.le_of_ble_eq_true rfl) (Nat.le_of_ble_eq_true rfl) ?_
              refine am_steps ok_Mo_pledgeFault 2 (x' := (115, [some (.ref 22), some (.int q1), some (.int ((64 * (s.1 5)) + q1)), some (.long q12), none, some (.long (s.2.2.2 32 j77)), none, none, none], [.ref 22, .int ((64 * (s.1 5)) + q1), .ref 32], h0, 0, 0)) rfl (Nat.le_of_ble_eq_true rfl) (Nat.le_of_ble_eq_true rfl) ?_
              refine mr_get ok_Mo_pledgeFault rfl hM (v := .int (s.1 4)) rfl (pc' := 118) rfl (Nat.le_of_ble_eq_true rfl) (Nat.le_of_ble_eq_true rfl) ?_
              refine am_steps ok_Mo_pledgeFault 2 (x' := (if ¬ ((s.1 4) : Int32) = 11 then 130 else 123, [some (.ref 22), some (.int q1), some (.int ((64 * (s.1 5)) + q1)), some (.long q12), none, some (.long (s.2.2.2 32 j77)), none, none, none], [.int ((64 * (s.1 5)) + q1), .ref 32], h0, 0, 0)) rfl (Nat.le_of_ble_eq_true rfl) (Nat.le_of_ble_eq_true rfl) ?_
              obtain ⟨u81, hA83, hB84⟩ := Option.bind_eq_some_iff.mp hd; clear hd
              have K82 : am_S am_Pr none 3 80 0 0 48 (134, [some (.ref 22), none, some (.int ((64 * (s.1 5)) + q1)), none, none, some (.long (s.2.2.2 32 j77)), none, none, none], [.long u81, .int ((64 * (s.1 5)) + q1), .ref 32], h0, 0, 0) (mQr (.int q.1) q.2 h0) := by
                have hd := hB84
                refine mr_last ok_Mo_pledgeFault rfl hM (N := 16384) (by decide) hx78 (pc' := 135) rfl (Nat.le_of_ble_eq_true rfl) (Nat.le_of_ble_eq_true rfl) (fun h85 hM86 g88 => ?_)
                have f87 := mF.tr (mF.rf) g88
                refine am_steps ok_Mo_pledgeFault 2 (x' := (137, [some (.ref 22), none, some (.int ((64 * (s.1 5)) + q1)), none, none, some (.long (s.2.2.2 32 j77)), none, none, none], [.ref 22, .ref 22], h85, 0, 0)) rfl (Nat.le_of_ble_eq_true rfl) (Nat.le_of_ble_eq_true rfl) ?_
                refine mr_get ok_Mo_pledgeFault rfl hM86 (v := .int (s.1 5)) rfl (pc' := 140) rfl (Nat.le_of_ble_eq_true rfl) (Nat.le_of_ble_eq_true rfl) ?_
                obtain ⟨q89, hq90, hd91⟩ := Option.bind_eq_some_iff.mp hd; clear hd; have hd := hd91; clear hd91
                refine ar_cv ok_Mo_pledgeFault hk_Mo_isBelow rfl rfl (As := [.int (s.1 5)]) (ad := 22) (rest := []) rfl rfl hM86.1 (Nat.le_of_ble_eq_true rfl) (k_Mo_isBelow (s.1 5) (mB s 32 j77 u81) h85 hM86 q89 hq90) (Nat.le_of_ble_eq_true rfl) (Nat.le_of_ble_eq_true rfl) (Nat.le_of_ble_eq_true rfl) (Nat.le_of_ble_eq_true rfl) (pc' := 143) rfl (fun r92 h94 z93 => ?_)
                obtain ⟨z98, z99⟩ := z93; subst z98; rw [z99]
                show am_S _ _ _ _ _ _ _ (143, [some (.ref 22), none, some (.int ((64 * (s.1 5)) + q1)), none, none, some (.long (s.2.2.2 32 j77)), none, none, none], [.int q89], h85, 0, 0) _
                refine am_steps ok_Mo_pledgeFault 2 (x' := (146, [some (.ref 22), none, some (.int ((64 * (s.1 5)) + q1)), none, none, some (.long (s.2.2.2 32 j77)), none, some (.int q89), none], [.ref 22], h85, 0, 0)) rfl (Nat.le_of_ble_eq_true rfl) (Nat.le_of_ble_eq_true rfl) ?_
                refine mr_get ok_Mo_pledgeFault rfl hM86 (v := .int (s.1 4)) rfl (pc' := 149) rfl (Nat.le_of_ble_eq_true rfl) (Nat.le_of_ble_eq_true rfl) ?_
                refine am_steps ok_Mo_pledgeFault 2 (x' := (if ¬ ((s.1 4) : Int32) = 11 then 169 else 154, [some (.ref 22), none, some (.int ((64 * (s.1 5)) + q1)), none, none, some (.long (s.2.2.2 32 j77)), none, some (.int q89), none], [], h85, 0, 0)) rfl (Nat.le_of_ble_eq_true rfl) (Nat.le_of_ble_eq_true rfl) ?_
                obtain ⟨u100, hA102, hB103⟩ := Option.bind_eq_some_iff.mp hd; clear hd
                have K101 : am_S am_Pr none 3 80 0 0 48 (170, [some (.ref 22), none, some (.int ((64 * (s.1 5)) + q1)), none, none, some (.long (s.2.2.2 32 j77)), none, some (.int q89), none], [.int u100], h85, 0, 0) (mQr (.int q.1) q.2 h0) := by
                  have hd := hB103
                  refine am_steps ok_Mo_pledgeFault 2 (x' := (173, [some (.ref 22), none, some (.int ((64 * (s.1 5)) + q1)), none, none, some (.long (s.2.2.2 32 j77)), none, some (.int q89), some (.int u100)], [.ref 22], h85, 0, 0)) rfl (Nat.le_of_ble_eq_true rfl) (Nat.le_of_ble_eq_true rfl) ?_
                  refine mr_get ok_Mo_pledgeFault rfl hM86 (v := .ref 32) rfl (pc' := 176) rfl (Nat.le_of_ble_eq_true rfl) (Nat.le_of_ble_eq_true rfl) ?_
                  refine am_steps ok_Mo_pledgeFault 2 (x' := (179, [some (.ref 22), none, some (.int ((64 * (s.1 5)) + q1)), none, none, some (.long (s.2.2.2 32 j77)), none, some (.int q89), some (.int u100)], [.long (s.2.2.2 32 j77), .int ((64 * (s.1 5)) + q1), .ref 32], h85, 0, 0)) rfl (Nat.le_of_ble_eq_true rfl) (Nat.le_of_ble_eq_true rfl) ?_
                  refine mr_last ok_Mo_pledgeFault rfl hM86 (N := 16384) (by decide) hx78 (pc' := 180) rfl (Nat.le_of_ble_eq_true rfl) (Nat.le_of_ble_eq_true rfl) (fun h104 hM105 g107 => ?_)
                  have f106 := mF.tr f87 g107
                  refine am_steps ok_Mo_pledgeFault 2 (x' := (if (q89 : Int32) = 0 then 190 else 185, [some (.ref 22), none, some (.int ((64 * (s.1 5)) + q1)), none, none, some (.long (s.2.2.2 32 j77)), none, some (.int q89), some (.int u100)], [], h104, 0, 0)) rfl (Nat.le_of_ble_eq_true rfl) (Nat.le_of_ble_eq_true rfl) ?_
                  refine am_if (fun hc108 => ?_) (fun hc108 => ?_)
                  · rw [if_pos hc108] at hd
                    refine am_steps ok_Mo_pledgeFault 2 (x' := (if (u100 : Int32) = 0 then 200 else 195, [some (.ref 22), none, some (.int ((64 * (s.1 5)) + q1)), none, none, some (.long (s.2.2.2 32 j77)), none, some (.int q89), some (.int u100)], [], h104, 0, 0)) rfl (Nat.le_of_ble_eq_true rfl) (Nat.le_of_ble_eq_true rfl) ?_
                    refine am_if (fun hc109 => ?_) (fun hc109 => ?_)
                    · rw [if_pos hc109] at hd
                      refine am_steps ok_Mo_pledgeFault 1 (x' := (201, [some (.ref 22), none, some (.int ((64 * (s.1 5)) + q1)), none, none, some (.long (s.2.2.2 32 j77)), none, some (.int q89), some (.int u100)], [.int 0], h104, 0, 0)) rfl (Nat.le_of_ble_eq_true rfl) (Nat.le_of_ble_eq_true rfl) ?_
                      cases hd; exact am_ret ok_Mo_pledgeFault rfl (Nat.le_of_ble_eq_true rfl) (Nat.le_of_ble_eq_true rfl) ⟨rfl, hM105, f106⟩
                    · rw [if_neg hc109] at hd
                      refine am_steps ok_Mo_pledgeFault 2 (x' := (201, [some (.ref 22), none, some (.int ((64 * (s.1 5)) + q1)), none, none, some (.long (s.2.2.2 32 j77)), none, some (.int q89), some (.int u100)], [.int 10], h104, 0, 0)) rfl (Nat.le_of_ble_eq_true rfl) (Nat.le_of_ble_eq_true rfl) ?_
                      cases hd; exact am_ret ok_Mo_pledgeFault rfl (Nat.le_of_ble_eq_true rfl) (Nat.le_of_ble_eq_true rfl) ⟨rfl, hM105, f106⟩
                  · rw [if_neg hc108] at hd
                    refine am_steps ok_Mo_pledgeFault 2 (x' := (201, [some (.ref 22), none, some (.int ((64 * (s.1 5)) + q1)), none, none, some (.long (s.2.2.2 32 j77)), none, some (.int q89), some (.int u100)], [.int 9], h104, 0, 0)) rfl (Nat.le_of_ble_eq_true rfl) (Nat.le_of_ble_eq_true rfl) ?_
                    cases hd; exact am_ret ok_Mo_pledgeFault rfl (Nat.le_of_ble_eq_true rfl) (Nat.le_of_ble_eq_true rfl) ⟨rfl, hM105, f106⟩
                clear hB103; have hd := hA102; clear hA102
                refine am_if (fun hc110 => ?_) (fun hc110 => ?_)
                · rw [if_pos hc110] at hd
                  refine am_steps ok_Mo_pledgeFault 1 (x' := (170, [some (.ref 22), none, some (.int ((64 * (s.1 5)) + q1)), none, none, some (.long (s.2.2.2 32 j77)), none, some (.int q89), none], [.int 0], h85, 0, 0)) rfl (Nat.le_of_ble_eq_true rfl) (Nat.le_of_ble_eq_true rfl) ?_
                  cases hd; exact K101 
                · rw [if_neg hc110] at hd
                  refine am_steps ok_Mo_pledgeFault 1 (x' := (155, [some (.ref 22), none, some (.int ((64 * (s.1 5)) + q1)), none, none, some (.long (s.2.2.2 32 j77)), none, some (.int q89), none], [.ref 22], h85, 0, 0)) rfl (Nat.le_of_ble_eq_true rfl) (Nat.le_of_ble_eq_true rfl) ?_
                  obtain ⟨q111, hq112, hd113⟩ := Option.bind_eq_some_iff.mp hd; clear hd; have hd := hd113; clear hd113
                  refine ar_cv ok_Mo_pledgeFault hk_Mo_allCredit rfl rfl (As := []) (ad := 22) (rest := []) rfl rfl hM86.1 (Nat.le_of_ble_eq_true rfl) (k_Mo_allCredit  (mB s 32 j77 u81) h85 hM86 q111 hq112) (Nat.le_of_ble_eq_true rfl) (Nat.le_of_ble_eq_true rfl) (Nat.le_of_ble_eq_true rfl) (Nat.le_of_ble_eq_true rfl) (pc' := 158) rfl (fun r114 h116 z115 => ?_)
                  obtain ⟨z120, z121⟩ := z115; subst z120; rw [z121]
                  show am_S _ _ _ _ _ _ _ (158, [some (.ref 22), none, some (.int ((64 * (s.1 5)) + q1)), none, none, some (.long (s.2.2.2 32 j77)), none, some (.int q89), none], [.long q111], h85, 0, 0) _
                  refine am_steps ok_Mo_pledgeFault 3 (x' := (if ((lg_cmp q111 (Int64.ofNat 4000000000000000000)) : Int32) ≤ 0 then 169 else 165, [some (.ref 22), none, some (.int ((64 * (s.1 5)) + q1)), none, none, some (.long (s.2.2.2 32 j77)), none, some (.int q89), none], [], h85, 0, 0)) rfl (Nat.le_of_ble_eq_true rfl) (Nat.le_of_ble_eq_true rfl) ?_
                  refine am_if (fun hc122 => ?_) (fun hc122 => ?_)
                  · rw [if_pos hc122] at hd
                    refine am_steps ok_Mo_pledgeFault 1 (x' := (170, [some (.ref 22), none, some (.int ((64 * (s.1 5)) + q1)), none, none, some (.long (s.2.2.2 32 j77)), none, some (.int q89), none], [.int 0], h85, 0, 0)) rfl (Nat.le_of_ble_eq_true rfl) (Nat.le_of_ble_eq_true rfl) ?_
                    cases hd; exact K101 
                  · rw [if_neg hc122] at hd
                    refine am_steps ok_Mo_pledgeFault 2 (x' := (170, [some (.ref 22), none, some (.int ((64 * (s.1 5)) + q1)), none, none, some (.long (s.2.2.2 32 j77)), none, some (.int q89), none], [.int 1], h85, 0, 0)) rfl (Nat.le_of_ble_eq_true rfl) (Nat.le_of_ble_eq_true rfl) ?_
                    cases hd; exact K101 
              clear hB84; have hd := hA83; clear hA83
              refine am_if (fun hc123 => ?_) (fun hc123 => ?_)
              · rw [if_pos hc123] at hd
                refine am_steps ok_Mo_pledgeFault 3 (x' := (134, [some (.ref 22), some (.int q1), some (.int ((64 * (s.1 5)) + q1)), some (.long q12), none, some (.long (s.2.2.2 32 j77)), none, none, none], [.long ((s.2.2.2 32 j77) - q12), .int ((64 * (s.1 5)) + q1), .ref 32], h0, 0, 0)) rfl (Nat.le_of_ble_eq_true rfl) (Nat.le_of_ble_eq_true rfl) ?_
                refine am_drop 1 ?_
                refine am_drop 3 ?_
                cases hd; exact K82 
              · rw [if_neg hc123] at hd
                refine am_steps ok_Mo_pledgeFault 4 (x' := (134, [some (.ref 22), some (.int q1), some (.int ((64 * (s.1 5)) + q1)), some (.long q12), none, some (.long (s.2.2.2 32 j77)), none, none, none], [.long ((s.2.2.2 32 j77) + q12), .int ((64 * (s.1 5)) + q1), .ref 32], h0, 0, 0)) rfl (Nat.le_of_ble_eq_true rfl) (Nat.le_of_ble_eq_true rfl) ?_
                refine am_drop 1 ?_
                refine am_drop 3 ?_
                cases hd; exact K82 
            · rw [if_neg hc80] at hd
              refine am_steps ok_Mo_pledgeFault 1 (x' := (100, [some (.ref 22), some (.int q1), some (.int ((64 * (s.1 5)) + q1)), some (.long q12), none, none, none, none, none], [.int 9], h0, 0, 0)) rfl (Nat.le_of_ble_eq_true rfl) (Nat.le_of_ble_eq_true rfl) ?_
              cases hd; exact am_ret ok_Mo_pledgeFault rfl (Nat.le_of_ble_eq_true rfl) (Nat.le_of_ble_eq_true rfl) ⟨rfl, hM, (mF.rf)⟩
        · rw [if_neg hc29] at hd
          refine am_steps ok_Mo_pledgeFault 2 (x' := (59, [some (.ref 22), some (.int q1), some (.int ((64 * (s.1 5)) + q1)), some (.long q12), none, none, none, none, none], [.ref 22, .long q12], h0, 0, 0)) rfl (Nat.le_of_ble_eq_true rfl) (Nat.le_of_ble_eq_true rfl) ?_
          refine mr_get ok_Mo_pledgeFault rfl hM (v := .ref 32) rfl (pc' := 62) rfl (Nat.le_of_ble_eq_true rfl) (Nat.le_of_ble_eq_true rfl) ?_
          refine am_steps ok_Mo_pledgeFault 1 (x' := (63, [some (.ref 22), some (.int q1), some (.int ((64 * (s.1 5)) + q1)), some (.long q12), none, none, none, none, none], [.int ((64 * (s.1 5)) + q1), .ref 32, .long q12], h0, 0, 0)) rfl (Nat.le_of_ble_eq_true rfl) (Nat.le_of_ble_eq_true rfl) ?_
          obtain ⟨j124, hx125, hd126⟩ := Option.bind_eq_some_iff.mp hd; clear hd; have hd := hd126; clear hd126
          refine mr_lald ok_Mo_pledgeFault rfl hM (N := 16384) (by decide) hx125 (pc' := 64) rfl (Nat.le_of_ble_eq_true rfl) (Nat.le_of_ble_eq_true rfl) ?_
          refine am_steps ok_Mo_pledgeFault 2 (x' := (if ((lg_cmp q12 (s.2.2.2 32 j124)) : Int32) ≤ 0 then 71 else 68, [some (.ref 22), some (.int q1), some (.int ((64 * (s.1 5)) + q1)), some (.long q12), none, none, none, none, none], [], h0, 0, 0)) rfl (Nat.le_of_ble_eq_true rfl) (Nat.le_of_ble_eq_true rfl) ?_
          refine am_if (fun hc127 => ?_) (fun hc127 => ?_)
          · rw [if_pos hc127] at hd
            refine am_steps ok_Mo_pledgeFault 1 (x' := (72, [some (.ref 22), some (.int q1), some (.int ((64 * (s.1 5)) + q1)), some (.long q12), none, none, none, none, none], [.ref 22], h0, 0, 0)) rfl (Nat.le_of_ble_eq_true rfl) (Nat.le_of_ble_eq_true rfl) ?_
            refine mr_get ok_Mo_pledgeFault rfl hM (v := .int (s.1 4)) rfl (pc' := 75) rfl (Nat.le_of_ble_eq_true rfl) (Nat.le_of_ble_eq_true rfl) ?_
            refine am_steps ok_Mo_pledgeFault 2 (x' := (if ¬ ((s.1 4) : Int32) = 11 then 101 else 80, [some (.ref 22), some (.int q1), some (.int ((64 * (s.1 5)) + q1)), some (.long q12), none, none, none, none, none], [], h0, 0, 0)) rfl (Nat.le_of_ble_eq_true rfl) (Nat.le_of_ble_eq_true rfl) ?_
            refine am_if (fun hc128 => ?_) (fun hc128 => ?_)
            · rw [if_pos hc128] at hd
              refine am_steps ok_Mo_pledgeFault 1 (x' := (102, [some (.ref 22), some (.int q1), some (.int ((64 * (s.1 5)) + q1)), some (.long q12), none, none, none, none, none], [.ref 22], h0, 0, 0)) rfl (Nat.le_of_ble_eq_true rfl) (Nat.le_of_ble_eq_true rfl) ?_
              refine mr_get ok_Mo_pledgeFault rfl hM (v := .ref 32) rfl (pc' := 105) rfl (Nat.le_of_ble_eq_true rfl) (Nat.le_of_ble_eq_true rfl) ?_
              refine am_steps ok_Mo_pledgeFault 1 (x' := (106, [some (.ref 22), some (.int q1), some (.int ((64 * (s.1 5)) + q1)), some (.long q12), none, none, none, none, none], [.int ((64 * (s.1 5)) + q1), .ref 32], h0, 0, 0)) rfl (Nat.le_of_ble_eq_true rfl) (Nat.le_of_ble_eq_true rfl) ?_
              refine mr_lald ok_Mo_pledgeFault rfl hM (N := 16384) (by decide) hx125 (pc' := 107) rfl (Nat.le_of_ble_eq_true rfl) (Nat.le_of_ble_eq_true rfl) ?_
              refine am_steps ok_Mo_pledgeFault 2 (x' := (110, [some (.ref 22), some (.int q1), some (.int ((64 * (s.1 5)) + q1)), some (.long q12), none, some (.long (s.2.2.2 32 j124)), none, none, none], [.ref 22], h0, 0, 0)) rfl (Nat.le_of_ble_eq_true rfl) (Nat.le_of_ble_eq_true rfl) ?_
              refine mr_get ok_Mo_pledgeFault rfl hM (v := .ref 32) rfl (pc' := 113) rfl (Nat.le_of_ble_eq_true rfl) (Nat.le_of_ble_eq_true rfl) ?_
              refine am_steps ok_Mo_pledgeFault 2 (x' := (115, [some (.ref 22), some (.int q1), some (.int ((64 * (s.1 5)) + q1)), some (.long q12), none, some (.long (s.2.2.2 32 j124)), none, none, none], [.ref 22, .int ((64 * (s.1 5)) + q1), .ref 32], h0, 0, 0)) rfl (Nat.le_of_ble_eq_true rfl) (Nat.le_of_ble_eq_true rfl) ?_
              refine mr_get ok_Mo_pledgeFault rfl hM (v := .int (s.1 4)) rfl (pc' := 118) rfl (Nat.le_of_ble_eq_true rfl) (Nat.le_of_ble_eq_true rfl) ?_
              refine am_steps ok_Mo_pledgeFault 2 (x' := (if ¬ ((s.1 4) : Int32) = 11 then 130 else 123, [some (.ref 22), some (.int q1), some (.int ((64 * (s.1 5)) + q1)), some (.long q12), none, some (.long (s.2.2.2 32 j124)), none, none, none], [.int ((64 * (s.1 5)) + q1), .ref 32], h0, 0, 0)) rfl (Nat.le_of_ble_eq_true rfl) (Nat.le_of_ble_eq_true rfl) ?_
              obtain ⟨u129, hA131, hB132⟩ := Option.bind_eq_some_iff.mp hd; clear hd
              have K130 : am_S am_Pr none 3 80 0 0 48 (134, [some (.ref 22), none, some (.int ((64 * (s.1 5)) + q1)), none, none, some (.long (s.2.2.2 32 j124)), none, none, none], [.long u129, .int ((64 * (s.1 5)) + q1), .ref 32], h0, 0, 0) (mQr (.int q.1) q.2 h0) := by
                have hd := hB132
                refine mr_last ok_Mo_pledgeFault rfl hM (N := 16384) (by decide) hx125 (pc' := 135) rfl (Nat.le_of_ble_eq_true rfl) (Nat.le_of_ble_eq_true rfl) (fun h133 hM134 g136 => ?_)
                have f135 := mF.tr (mF.rf) g136
                refine am_steps ok_Mo_pledgeFault 2 (x' := (137, [some (.ref 22), none, some (.int ((64 * (s.1 5)) + q1)), none, none, some (.long (s.2.2.2 32 j124)), none, none, none], [.ref 22, .ref 22], h133, 0, 0)) rfl (Nat.le_of_ble_eq_true rfl) (Nat.le_of_ble_eq_true rfl) ?_
                refine mr_get ok_Mo_pledgeFault rfl hM134 (v := .int (s.1 5)) rfl (pc' := 140) rfl (Nat.le_of_ble_eq_true rfl) (Nat.le_of_ble_eq_true rfl) ?_
                obtain ⟨q137, hq138, hd139⟩ := Option.bind_eq_some_iff.mp hd; clear hd; have hd := hd139; clear hd139
                refine ar_cv ok_Mo_pledgeFault hk_Mo_isBelow rfl rfl (As := [.int (s.1 5)]) (ad := 22) (rest := []) rfl rfl hM134.1 (Nat.le_of_ble_eq_true rfl) (k_Mo_isBelow (s.1 5) (mB s 32 j124 u129) h133 hM134 q137 hq138) (Nat.le_of_ble_eq_true rfl) (Nat.le_of_ble_eq_true rfl) (Nat.le_of_ble_eq_true rfl) (Nat.le_of_ble_eq_true rfl) (pc' := 143) rfl (fun r140 h142 z141 => ?_)
                obtain ⟨z146, z147⟩ := z141; subst z146; rw [z147]
                show am_S _ _ _ _ _ _ _ (143, [some (.ref 22), none, some (.int ((64 * (s.1 5)) + q1)), none, none, some (.long (s.2.2.2 32 j124)), none, none, none], [.int q137], h133, 0, 0) _
                refine am_steps ok_Mo_pledgeFault 2 (x' := (146, [some (.ref 22), none, some (.int ((64 * (s.1 5)) + q1)), none, none, some (.long (s.2.2.2 32 j124)), none, some (.int q137), none], [.ref 22], h133, 0, 0)) rfl (Nat.le_of_ble_eq_true rfl) (Nat.le_of_ble_eq_true rfl) ?_
                refine mr_get ok_Mo_pledgeFault rfl hM134 (v := .int (s.1 4)) rfl (pc' := 149) rfl (Nat.le_of_ble_eq_true rfl) (Nat.le_of_ble_eq_true rfl) ?_
                refine am_steps ok_Mo_pledgeFault 2 (x' := (if ¬ ((s.1 4) : Int32) = 11 then 169 else 154, [some (.ref 22), none, some (.int ((64 * (s.1 5)) + q1)), none, none, some (.long (s.2.2.2 32 j124)), none, some (.int q137), none], [], h133, 0, 0)) rfl (Nat.le_of_ble_eq_true rfl) (Nat.le_of_ble_eq_true rfl) ?_
                obtain ⟨u148, hA150, hB151⟩ := Option.bind_eq_some_iff.mp hd; clear hd
                have K149 : am_S am_Pr none 3 80 0 0 48 (170, [some (.ref 22), none, some (.int ((64 * (s.1 5)) + q1)), none, none, some (.long (s.2.2.2 32 j124)), none, some (.int q137), none], [.int u148], h133, 0, 0) (mQr (.int q.1) q.2 h0) := by
                  have hd := hB151
                  refine am_steps ok_Mo_pledgeFault 2 (x' := (173, [some (.ref 22), none, some (.int ((64 * (s.1 5)) + q1)), none, none, some (.long (s.2.2.2 32 j124)), none, some (.int q137), some (.int u148)], [.ref 22], h133, 0, 0)) rfl (Nat.le_of_ble_eq_true rfl) (Nat.le_of_ble_eq_true rfl) ?_
                  refine mr_get ok_Mo_pledgeFault rfl hM134 (v := .ref 32) rfl (pc' := 176) rfl (Nat.le_of_ble_eq_true rfl) (Nat.le_of_ble_eq_true rfl) ?_
                  refine am_steps ok_Mo_pledgeFault 2 (x' := (179, [some (.ref 22), none, some (.int ((64 * (s.1 5)) + q1)), none, none, some (.long (s.2.2.2 32 j124)), none, some (.int q137), some (.int u148)], [.long (s.2.2.2 32 j124), .int ((64 * (s.1 5)) + q1), .ref 32], h133, 0, 0)) rfl (Nat.le_of_ble_eq_true rfl) (Nat.le_of_ble_eq_true rfl) ?_
                  refine mr_last ok_Mo_pledgeFault rfl hM134 (N := 16384) (by decide) hx125 (pc' := 180) rfl (Nat.le_of_ble_eq_true rfl) (Nat.le_of_ble_eq_true rfl) (fun h152 hM153 g155 => ?_)
                  have f154 := mF.tr f135 g155
                  refine am_steps ok_Mo_pledgeFault 2 (x' := (if (q137 : Int32) = 0 then 190 else 185, [some (.ref 22), none, some (.int ((64 * (s.1 5)) + q1)), none, none, some (.long (s.2.2.2 32 j124)), none, some (.int q137), some (.int u148)], [], h152, 0, 0)) rfl (Nat.le_of_ble_eq_true rfl) (Nat.le_of_ble_eq_true rfl) ?_
                  refine am_if (fun hc156 => ?_) (fun hc156 => ?_)
                  · rw [if_pos hc156] at hd
                    refine am_steps ok_Mo_pledgeFault 2 (x' := (if (u148 : Int32) = 0 then 200 else 195, [some (.ref 22), none, some (.int ((64 * (s.1 5)) + q1)), none, none, some (.long (s.2.2.2 32 j124)), none, some (.int q137), some (.int u148)], [], h152, 0, 0)) rfl (Nat.le_of_ble_eq_true rfl) (Nat.le_of_ble_eq_true rfl) ?_
                    refine am_if (fun hc157 => ?_) (fun hc157 => ?_)
                    · rw [if_pos hc157] at hd
                      refine am_steps ok_Mo_pledgeFault 1 (x' := (201, [some (.ref 22), none, some (.int ((64 * (s.1 5)) + q1)), none, none, some (.long (s.2.2.2 32 j124)), none, some (.int q137), some (.int u148)], [.int 0], h152, 0, 0)) rfl (Nat.le_of_ble_eq_true rfl) (Nat.le_of_ble_eq_true rfl) ?_
                      cases hd; exact am_ret ok_Mo_pledgeFault rfl (Nat.le_of_ble_eq_true rfl) (Nat.le_of_ble_eq_true rfl) ⟨rfl, hM153, f154⟩
                    · rw [if_neg hc157] at hd
                      refine am_steps ok_Mo_pledgeFault 2 (x' := (201, [some (.ref 22), none, some (.int ((64 * (s.1 5)) + q1)), none, none, some (.long (s.2.2.2 32 j124)), none, some (.int q137), some (.int u148)], [.int 10], h152, 0, 0)) rfl (Nat.le_of_ble_eq_true rfl) (Nat.le_of_ble_eq_true rfl) ?_
                      cases hd; exact am_ret ok_Mo_pledgeFault rfl (Nat.le_of_ble_eq_true rfl) (Nat.le_of_ble_eq_true rfl) ⟨rfl, hM153, f154⟩
                  · rw [if_neg hc156] at hd
                    refine am_steps ok_Mo_pledgeFault 2 (x' := (201, [some (.ref 22), none, some (.int ((64 * (s.1 5)) + q1)), none, none, some (.long (s.2.2.2 32 j124)), none, some (.int q137), some (.int u148)], [.int 9], h152, 0, 0)) rfl (Nat.le_of_ble_eq_true rfl) (Nat.le_of_ble_eq_true rfl) ?_
                    cases hd; exact am_ret ok_Mo_pledgeFault rfl (Nat.le_of_ble_eq_true rfl) (Nat.le_of_ble_eq_true rfl) ⟨rfl, hM153, f154⟩
                clear hB151; have hd := hA150; clear hA150
                refine am_if (fun hc158 => ?_) (fun hc158 => ?_)
                · rw [if_pos hc158] at hd
                  refine am_steps ok_Mo_pledgeFault 1 (x' := (170, [some (.ref 22), none, some (.int ((64 * (s.1 5)) + q1)), none, none, some (.long (s.2.2.2 32 j124)), none, some (.int q137), none], [.int 0], h133, 0, 0)) rfl (Nat.le_of_ble_eq_true rfl) (Nat.le_of_ble_eq_true rfl) ?_
                  cases hd; exact K149 
                · rw [if_neg hc158] at hd
                  refine am_steps ok_Mo_pledgeFault 1 (x' := (155, [some (.ref 22), none, some (.int ((64 * (s.1 5)) + q1)), none, none, some (.long (s.2.2.2 32 j124)), none, some (.int q137), none], [.ref 22], h133, 0, 0)) rfl (Nat.le_of_ble_eq_true rfl) (Nat.le_of_ble_eq_true rfl) ?_
                  obtain ⟨q159, hq160, hd161⟩ := Option.bind_eq_some_iff.mp hd; clear hd; have hd := hd161; clear hd161
                  refine ar_cv ok_Mo_pledgeFault hk_Mo_allCredit rfl rfl (As := []) (ad := 22) (rest := []) rfl rfl hM134.1 (Nat.le_of_ble_eq_true rfl) (k_Mo_allCredit  (mB s 32 j124 u129) h133 hM134 q159 hq160) (Nat.le_of_ble_eq_true rfl) (Nat.le_of_ble_eq_true rfl) (Nat.le_of_ble_eq_true rfl) (Nat.le_of_ble_eq_true rfl) (pc' := 158) rfl (fun r162 h164 z163 => ?_)
                  obtain ⟨z168, z169⟩ := z163; subst z168; rw [z169]
                  show am_S _ _ _ _ _ _ _ (158, [some (.ref 22), none, some (.int ((64 * (s.1 5)) + q1)), none, none, some (.long (s.2.2.2 32 j124)), none, some (.int q137), none], [.long q159], h133, 0, 0) _
                  refine am_steps ok_Mo_pledgeFault 3 (x' := (if ((lg_cmp q159 (Int64.ofNat 4000000000000000000)) : Int32) ≤ 0 then 169 else 165, [some (.ref 22), none, some (.int ((64 * (s.1 5)) + q1)), none, none, some (.long (s.2.2.2 32 j124)), none, some (.int q137), none], [], h133, 0, 0)) rfl (Nat.le_of_ble_eq_true rfl) (Nat.le_of_ble_eq_true rfl) ?_
                  refine am_if (fun hc170 => ?_) (fun hc170 => ?_)
                  · rw [if_pos hc170] at hd
                    refine am_steps ok_Mo_pledgeFault 1 (x' := (170, [some (.ref 22), none, some (.int ((64 * (s.1 5)) + q1)), none, none, some (.long (s.2.2.2 32 j124)), none, some (.int q137), none], [.int 0], h133, 0, 0)) rfl (Nat.le_of_ble_eq_true rfl) (Nat.le_of_ble_eq_true rfl) ?_
                    cases hd; exact K149 
                  · rw [if_neg hc170] at hd
                    refine am_steps ok_Mo_pledgeFault 2 (x' := (170, [some (.ref 22), none, some (.int ((64 * (s.1 5)) + q1)), none, none, some (.long (s.2.2.2 32 j124)), none, some (.int q137), none], [.int 1], h133, 0, 0)) rfl (Nat.le_of_ble_eq_true rfl) (Nat.le_of_ble_eq_true rfl) ?_
                    cases hd; exact K149 
              clear hB132; have hd := hA131; clear hA131
              refine am_if (fun hc171 => ?_) (fun hc171 => ?_)
              · rw [if_pos hc171] at hd
                refine am_steps ok_Mo_pledgeFault 3 (x' := (134, [some (.ref 22), some (.int q1), some (.int ((64 * (s.1 5)) + q1)), some (.long q12), none, some (.long (s.2.2.2 32 j124)), none, none, none], [.long ((s.2.2.2 32 j124) - q12), .int ((64 * (s.1 5)) + q1), .ref 32], h0, 0, 0)) rfl (Nat.le_of_ble_eq_true rfl) (Nat.le_of_ble_eq_true rfl) ?_
                refine am_drop 1 ?_
                refine am_drop 3 ?_
                cases hd; exact K130 
              · rw [if_neg hc171] at hd
                refine am_steps ok_Mo_pledgeFault 4 (x' := (134, [some (.ref 22), some (.int q1), some (.int ((64 * (s.1 5)) + q1)), some (.long q12), none, some (.long (s.2.2.2 32 j124)), none, none, none], [.long ((s.2.2.2 32 j124) + q12), .int ((64 * (s.1 5)) + q1), .ref 32], h0, 0, 0)) rfl (Nat.le_of_ble_eq_true rfl) (Nat.le_of_ble_eq_true rfl) ?_
                refine am_drop 1 ?_
                refine am_drop 3 ?_
                cases hd; exact K130 
            · rw [if_neg hc128] at hd
              refine am_steps ok_Mo_pledgeFault 1 (x' := (81, [some (.ref 22), some (.int q1), some (.int ((64 * (s.1 5)) + q1)), some (.long q12), none, none, none, none, none], [.ref 22], h0, 0, 0)) rfl (Nat.le_of_ble_eq_true rfl) (Nat.le_of_ble_eq_true rfl) ?_
              refine mr_get ok_Mo_pledgeFault rfl hM (v := .ref 32) rfl (pc' := 84) rfl (Nat.le_of_ble_eq_true rfl) (Nat.le_of_ble_eq_true rfl) ?_
              refine am_steps ok_Mo_pledgeFault 1 (x' := (85, [some (.ref 22), some (.int q1), some (.int ((64 * (s.1 5)) + q1)), some (.long q12), none, none, none, none, none], [.int ((64 * (s.1 5)) + q1), .ref 32], h0, 0, 0)) rfl (Nat.le_of_ble_eq_true rfl) (Nat.le_of_ble_eq_true rfl) ?_
              refine mr_lald ok_Mo_pledgeFault rfl hM (N := 16384) (by decide) hx125 (pc' := 86) rfl (Nat.le_of_ble_eq_true rfl) (Nat.le_of_ble_eq_true rfl) ?_
              refine am_steps ok_Mo_pledgeFault 3 (x' := (89, [some (.ref 22), some (.int q1), some (.int ((64 * (s.1 5)) + q1)), some (.long q12), none, none, none, none, none], [.ref 22, .long ((s.2.2.2 32 j124) + q12)], h0, 0, 0)) rfl (Nat.le_of_ble_eq_true rfl) (Nat.le_of_ble_eq_true rfl) ?_
              refine mr_get ok_Mo_pledgeFault rfl hM (v := .ref 31) rfl (pc' := 92) rfl (Nat.le_of_ble_eq_true rfl) (Nat.le_of_ble_eq_true rfl) ?_
              refine am_steps ok_Mo_pledgeFault 1 (x' := (93, [some (.ref 22), some (.int q1), some (.int ((64 * (s.1 5)) + q1)), some (.long q12), none, none, none, none, none], [.int ((64 * (s.1 5)) + q1), .ref 31, .long ((s.2.2.2 32 j124) + q12)], h0, 0, 0)) rfl (Nat.le_of_ble_eq_true rfl) (Nat.le_of_ble_eq_true rfl) ?_
              refine mr_lald ok_Mo_pledgeFault rfl hM (N := 16384) (by decide) hx125 (pc' := 94) rfl (Nat.le_of_ble_eq_true rfl) (Nat.le_of_ble_eq_true rfl) ?_
              refine am_steps ok_Mo_pledgeFault 2 (x' := (if ((lg_cmp ((s.2.2.2 32 j124) + q12) (s.2.2.2 31 j124)) : Int32) ≤ 0 then 101 else 98, [some (.ref 22), some (.int q1), some (.int ((64 * (s.1 5)) + q1)), some (.long q12), none, none, none, none, none], [], h0, 0, 0)) rfl (Nat.le_of_ble_eq_true rfl) (Nat.le_of_ble_eq_true rfl) ?_
              refine am_if (fun hc172 => ?_) (fun hc172 => ?_)
              · rw [if_pos hc172] at hd
                refine am_steps ok_Mo_pledgeFault 1 (x' := (102, [some (.ref 22), some (.int q1), some (.int ((64 * (s.1 5)) + q1)), some (.long q12), none, none, none, none, none], [.ref 22], h0, 0, 0)) rfl (Nat.le_of_ble_eq_true rfl) (Nat.le_of_ble_eq_true rfl) ?_
                refine mr_get ok_Mo_pledgeFault rfl hM (v := .ref 32) rfl (pc' := 105) rfl (Nat.le_of_ble_eq_true rfl) (Nat.le_of_ble_eq_true rfl) ?_
                refine am_steps ok_Mo_pledgeFault 1 (x' := (106, [some (.ref 22), some (.int q1), some (.int ((64 * (s.1 5)) + q1)), some (.long q12), none, none, none, none, none], [.int ((64 * (s.1 5)) + q1), .ref 32], h0, 0, 0)) rfl (Nat.le_of_ble_eq_true rfl) (Nat.le_of_ble_eq_true rfl) ?_
                refine mr_lald ok_Mo_pledgeFault rfl hM (N := 16384) (by decide) hx125 (pc' := 107) rfl (Nat.le_of_ble_eq_true rfl) (Nat.le_of_ble_eq_true rfl) ?_
                refine am_steps ok_Mo_pledgeFault 2 (x' := (110, [some (.ref 22), some (.int q1), some (.int ((64 * (s.1 5)) + q1)), some (.long q12), none, some (.long (s.2.2.2 32 j124)), none, none, none], [.ref 22], h0, 0, 0)) rfl (Nat.le_of_ble_eq_true rfl) (Nat.le_of_ble_eq_true rfl) ?_
                refine mr_get ok_Mo_pledgeFault rfl hM (v := .ref 32) rfl (pc' := 113) rfl (Nat.le_of_ble_eq_true rfl) (Nat.le_of_ble_eq_true rfl) ?_
                refine am_steps ok_Mo_pledgeFault 2 (x' := (115, [some (.ref 22), some (.int q1), some (.int ((64 * (s.1 5)) + q1)), some (.long q12), none, some (.long (s.2.2.2 32 j124)), none, none, none], [.ref 22, .int ((64 * (s.1 5)) + q1), .ref 32], h0, 0, 0)) rfl (Nat.le_of_ble_eq_true rfl) (Nat.le_of_ble_eq_true rfl) ?_
                refine mr_get ok_Mo_pledgeFault rfl hM (v := .int (s.1 4)) rfl (pc' := 118) rfl (Nat.le_of_ble_eq_true rfl) (Nat.le_of_ble_eq_true rfl) ?_
                refine am_steps ok_Mo_pledgeFault 2 (x' := (if ¬ ((s.1 4) : Int32) = 11 then 130 else 123, [some (.ref 22), some (.int q1), some (.int ((64 * (s.1 5)) + q1)), some (.long q12), none, some (.long (s.2.2.2 32 j124)), none, none, none], [.int ((64 * (s.1 5)) + q1), .ref 32], h0, 0, 0)) rfl (Nat.le_of_ble_eq_true rfl) (Nat.le_of_ble_eq_true rfl) ?_
                obtain ⟨u173, hA175, hB176⟩ := Option.bind_eq_some_iff.mp hd; clear hd
                have K174 : am_S am_Pr none 3 80 0 0 48 (134, [some (.ref 22), none, some (.int ((64 * (s.1 5)) + q1)), none, none, some (.long (s.2.2.2 32 j124)), none, none, none], [.long u173, .int ((64 * (s.1 5)) + q1), .ref 32], h0, 0, 0) (mQr (.int q.1) q.2 h0) := by
                  have hd := hB176
                  refine mr_last ok_Mo_pledgeFault rfl hM (N := 16384) (by decide) hx125 (pc' := 135) rfl (Nat.le_of_ble_eq_true rfl) (Nat.le_of_ble_eq_true rfl) (fun h177 hM178 g180 => ?_)
                  have f179 := mF.tr (mF.rf) g180
                  refine am_steps ok_Mo_pledgeFault 2 (x' := (137, [some (.ref 22), none, some (.int ((64 * (s.1 5)) + q1)), none, none, some (.long (s.2.2.2 32 j124)), none, none, none], [.ref 22, .ref 22], h177, 0, 0)) rfl (Nat.le_of_ble_eq_true rfl) (Nat.le_of_ble_eq_true rfl) ?_
                  refine mr_get ok_Mo_pledgeFault rfl hM178 (v := .int (s.1 5)) rfl (pc' := 140) rfl (Nat.le_of_ble_eq_true rfl) (Nat.le_of_ble_eq_true rfl) ?_
                  obtain ⟨q181, hq182, hd183⟩ := Option.bind_eq_some_iff.mp hd; clear hd; have hd := hd183; clear hd183
                  refine ar_cv ok_Mo_pledgeFault hk_Mo_isBelow rfl rfl (As := [.int (s.1 5)]) (ad := 22) (rest := []) rfl rfl hM178.1 (Nat.le_of_ble_eq_true rfl) (k_Mo_isBelow (s.1 5) (mB s 32 j124 u173) h177 hM178 q181 hq182) (Nat.le_of_ble_eq_true rfl) (Nat.le_of_ble_eq_true rfl) (Nat.le_of_ble_eq_true rfl) (Nat.le_of_ble_eq_true rfl) (pc' := 143) rfl (fun r184 h186 z185 => ?_)
                  obtain ⟨z190, z191⟩ := z185; subst z190; rw [z191]
                  show am_S _ _ _ _ _ _ _ (143, [some (.ref 22), none, some (.int ((64 * (s.1 5)) + q1)), none, none, some (.long (s.2.2.2 32 j124)), none, none, none], [.int q181], h177, 0, 0) _
                  refine am_steps ok_Mo_pledgeFault 2 (x' := (146, [some (.ref 22), none, some (.int ((64 * (s.1 5)) + q1)), none, none, some (.long (s.2.2.2 32 j124)), none, some (.int q181), none], [.ref 22], h177, 0, 0)) rfl (Nat.le_of_ble_eq_true rfl) (Nat.le_of_ble_eq_true rfl) ?_
                  refine mr_get ok_Mo_pledgeFault rfl hM178 (v := .int (s.1 4)) rfl (pc' := 149) rfl (Nat.le_of_ble_eq_true rfl) (Nat.le_of_ble_eq_true rfl) ?_
                  refine am_steps ok_Mo_pledgeFault 2 (x' := (if ¬ ((s.1 4) : Int32) = 11 then 169 else 154, [some (.ref 22), none, some (.int ((64 * (s.1 5)) + q1)), none, none, some (.long (s.2.2.2 32 j124)), none, some (.int q181), none], [], h177, 0, 0)) rfl (Nat.le_of_ble_eq_true rfl) (Nat.le_of_ble_eq_true rfl) ?_
                  obtain ⟨u192, hA194, hB195⟩ := Option.bind_eq_some_iff.mp hd; clear hd
                  have K193 : am_S am_Pr none 3 80 0 0 48 (170, [some (.ref 22), none, some (.int ((64 * (s.1 5)) + q1)), none, none, some (.long (s.2.2.2 32 j124)), none, some (.int q181), none], [.int u192], h177, 0, 0) (mQr (.int q.1) q.2 h0) := by
                    have hd := hB195
                    refine am_steps ok_Mo_pledgeFault 2 (x' := (173, [some (.ref 22), none, some (.int ((64 * (s.1 5)) + q1)), none, none, some (.long (s.2.2.2 32 j124)), none, some (.int q181), some (.int u192)], [.ref 22], h177, 0, 0)) rfl (Nat.le_of_ble_eq_true rfl) (Nat.le_of_ble_eq_true rfl) ?_
                    refine mr_get ok_Mo_pledgeFault rfl hM178 (v := .ref 32) rfl (pc' := 176) rfl (Nat.le_of_ble_eq_true rfl) (Nat.le_of_ble_eq_true rfl) ?_
                    refine am_steps ok_Mo_pledgeFault 2 (x' := (179, [some (.ref 22), none, some (.int ((64 * (s.1 5)) + q1)), none, none, some (.long (s.2.2.2 32 j124)), none, some (.int q181), some (.int u192)], [.long (s.2.2.2 32 j124), .int ((64 * (s.1 5)) + q1), .ref 32], h177, 0, 0)) rfl (Nat.le_of_ble_eq_true rfl) (Nat.le_of_ble_eq_true rfl) ?_
                    refine mr_last ok_Mo_pledgeFault rfl hM178 (N := 16384) (by decide) hx125 (pc' := 180) rfl (Nat.le_of_ble_eq_true rfl) (Nat.le_of_ble_eq_true rfl) (fun h196 hM197 g199 => ?_)
                    have f198 := mF.tr f179 g199
                    refine am_steps ok_Mo_pledgeFault 2 (x' := (if (q181 : Int32) = 0 then 190 else 185, [some (.ref 22), none, some (.int ((64 * (s.1 5)) + q1)), none, none, some (.long (s.2.2.2 32 j124)), none, some (.int q181), some (.int u192)], [], h196, 0, 0)) rfl (Nat.le_of_ble_eq_true rfl) (Nat.le_of_ble_eq_true rfl) ?_
                    refine am_if (fun hc200 => ?_) (fun hc200 => ?_)
                    · rw [if_pos hc200] at hd
                      refine am_steps ok_Mo_pledgeFault 2 (x' := (if (u192 : Int32) = 0 then 200 else 195, [some (.ref 22), none, some (.int ((64 * (s.1 5)) + q1)), none, none, some (.long (s.2.2.2 32 j124)), none, some (.int q181), some (.int u192)], [], h196, 0, 0)) rfl (Nat.le_of_ble_eq_true rfl) (Nat.le_of_ble_eq_true rfl) ?_
                      refine am_if (fun hc201 => ?_) (fun hc201 => ?_)
                      · rw [if_pos hc201] at hd
                        refine am_steps ok_Mo_pledgeFault 1 (x' := (201, [some (.ref 22), none, some (.int ((64 * (s.1 5)) + q1)), none, none, some (.long (s.2.2.2 32 j124)), none, some (.int q181), some (.int u192)], [.int 0], h196, 0, 0)) rfl (Nat.le_of_ble_eq_true rfl) (Nat.le_of_ble_eq_true rfl) ?_
                        cases hd; exact am_ret ok_Mo_pledgeFault rfl (Nat.le_of_ble_eq_true rfl) (Nat.le_of_ble_eq_true rfl) ⟨rfl, hM197, f198⟩
                      · rw [if_neg hc201] at hd
                        refine am_steps ok_Mo_pledgeFault 2 (x' := (201, [some (.ref 22), none, some (.int ((64 * (s.1 5)) + q1)), none, none, some (.long (s.2.2.2 32 j124)), none, some (.int q181), some (.int u192)], [.int 10], h196, 0, 0)) rfl (Nat.le_of_ble_eq_true rfl) (Nat.le_of_ble_eq_true rfl) ?_
                        cases hd; exact am_ret ok_Mo_pledgeFault rfl (Nat.le_of_ble_eq_true rfl) (Nat.le_of_ble_eq_true rfl) ⟨rfl, hM197, f198⟩
                    · rw [if_neg hc200] at hd
                      refine am_steps ok_Mo_pledgeFault 2 (x' := (201, [some (.ref 22), none, some (.int ((64 * (s.1 5)) + q1)), none, none, some (.long (s.2.2.2 32 j124)), none, some (.int q181), some (.int u192)], [.int 9], h196, 0, 0)) rfl (Nat.le_of_ble_eq_true rfl) (Nat.le_of_ble_eq_true rfl) ?_
                      cases hd; exact am_ret ok_Mo_pledgeFault rfl (Nat.le_of_ble_eq_true rfl) (Nat.le_of_ble_eq_true rfl) ⟨rfl, hM197, f198⟩
                  clear hB195; have hd := hA194; clear hA194
                  refine am_if (fun hc202 => ?_) (fun hc202 => ?_)
                  · rw [if_pos hc202] at hd
                    refine am_steps ok_Mo_pledgeFault 1 (x' := (170, [some (.ref 22), none, some (.int ((64 * (s.1 5)) + q1)), none, none, some (.long (s.2.2.2 32 j124)), none, some (.int q181), none], [.int 0], h177, 0, 0)) rfl (Nat.le_of_ble_eq_true rfl) (Nat.le_of_ble_eq_true rfl) ?_
                    cases hd; exact K193 
                  · rw [if_neg hc202] at hd
                    refine am_steps ok_Mo_pledgeFault 1 (x' := (155, [some (.ref 22), none, some (.int ((64 * (s.1 5)) + q1)), none, none, some (.long (s.2.2.2 32 j124)), none, some (.int q181), none], [.ref 22], h177, 0, 0)) rfl (Nat.le_of_ble_eq_true rfl) (Nat.le_of_ble_eq_true rfl) ?_
                    obtain ⟨q203, hq204, hd205⟩ := Option.bind_eq_some_iff.mp hd; clear hd; have hd := hd205; clear hd205
                    refine ar_cv ok_Mo_pledgeFault hk_Mo_allCredit rfl rfl (As := []) (ad := 22) (rest := []) rfl rfl hM178.1 (Nat.le_of_ble_eq_true rfl) (k_Mo_allCredit  (mB s 32 j124 u173) h177 hM178 q203 hq204) (Nat.le_of_ble_eq_true rfl) (Nat.le_of_ble_eq_true rfl) (Nat.le_of_ble_eq_true rfl) (Nat.le_of_ble_eq_true rfl) (pc' := 158) rfl (fun r206 h208 z207 => ?_)
                    obtain ⟨z212, z213⟩ := z207; subst z212; rw [z213]
                    show am_S _ _ _ _ _ _ _ (158, [some (.ref 22), none, some (.int ((64 * (s.1 5)) + q1)), none, none, some (.long (s.2.2.2 32 j124)), none, some (.int q181), none], [.long q203], h177, 0, 0) _
                    refine am_steps ok_Mo_pledgeFault 3 (x' := (if ((lg_cmp q203 (Int64.ofNat 4000000000000000000)) : Int32) ≤ 0 then 169 else 165, [some (.ref 22), none, some (.int ((64 * (s.1 5)) + q1)), none, none, some (.long (s.2.2.2 32 j124)), none, some (.int q181), none], [], h177, 0, 0)) rfl (Nat.le_of_ble_eq_true rfl) (Nat.le_of_ble_eq_true rfl) ?_
                    refine am_if (fun hc214 => ?_) (fun hc214 => ?_)
                    · rw [if_pos hc214] at hd
                      refine am_steps ok_Mo_pledgeFault 1 (x' := (170, [some (.ref 22), none, some (.int ((64 * (s.1 5)) + q1)), none, none, some (.long (s.2.2.2 32 j124)), none, some (.int q181), none], [.int 0], h177, 0, 0)) rfl (Nat.le_of_ble_eq_true rfl) (Nat.le_of_ble_eq_true rfl) ?_
                      cases hd; exact K193 
                    · rw [if_neg hc214] at hd
                      refine am_steps ok_Mo_pledgeFault 2 (x' := (170, [some (.ref 22), none, some (.int ((64 * (s.1 5)) + q1)), none, none, some (.long (s.2.2.2 32 j124)), none, some (.int q181), none], [.int 1], h177, 0, 0)) rfl (Nat.le_of_ble_eq_true rfl) (Nat.le_of_ble_eq_true rfl) ?_
                      cases hd; exact K193 
                clear hB176; have hd := hA175; clear hA175
                refine am_if (fun hc215 => ?_) (fun hc215 => ?_)
                · rw [if_pos hc215] at hd
                  refine am_steps ok_Mo_pledgeFault 3 (x' := (134, [some (.ref 22), some (.int q1), some (.int ((64 * (s.1 5)) + q1)), some (.long q12), none, some (.long (s.2.2.2 32 j124)), none, none, none], [.long ((s.2.2.2 32 j124) - q12), .int ((64 * (s.1 5)) + q1), .ref 32], h0, 0, 0)) rfl (Nat.le_of_ble_eq_true rfl) (Nat.le_of_ble_eq_true rfl) ?_
                  refine am_drop 1 ?_
                  refine am_drop 3 ?_
                  cases hd; exact K174 
                · rw [if_neg hc215] at hd
                  refine am_steps ok_Mo_pledgeFault 4 (x' := (134, [some (.ref 22), some (.int q1), some (.int ((64 * (s.1 5)) + q1)), some (.long q12), none, some (.long (s.2.2.2 32 j124)), none, none, none], [.long ((s.2.2.2 32 j124) + q12), .int ((64 * (s.1 5)) + q1), .ref 32], h0, 0, 0)) rfl (Nat.le_of_ble_eq_true rfl) (Nat.le_of_ble_eq_true rfl) ?_
                  refine am_drop 1 ?_
                  refine am_drop 3 ?_
                  cases hd; exact K174 
              · rw [if_neg hc172] at hd
                refine am_steps ok_Mo_pledgeFault 1 (x' := (100, [some (.ref 22), some (.int q1), some (.int ((64 * (s.1 5)) + q1)), some (.long q12), none, none, none, none, none], [.int 9], h0, 0, 0)) rfl (Nat.le_of_ble_eq_true rfl) (Nat.le_of_ble_eq_true rfl) ?_
                cases hd; exact am_ret ok_Mo_pledgeFault rfl (Nat.le_of_ble_eq_true rfl) (Nat.le_of_ble_eq_true rfl) ⟨rfl, hM, (mF.rf)⟩
          · rw [if_neg hc127] at hd
            refine am_steps ok_Mo_pledgeFault 1 (x' := (70, [some (.ref 22), some (.int q1), some (.int ((64 * (s.1 5)) + q1)), some (.long q12), none, none, none, none, none], [.int 8], h0, 0, 0)) rfl (Nat.le_of_ble_eq_true rfl) (Nat.le_of_ble_eq_true rfl) ?_
            cases hd; exact am_ret ok_Mo_pledgeFault rfl (Nat.le_of_ble_eq_true rfl) (Nat.le_of_ble_eq_true rfl) ⟨rfl, hM, (mF.rf)⟩
