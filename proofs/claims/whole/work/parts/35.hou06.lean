/-! Methods of the class as functions of its state. -/
def h_Bo_creditIfPledged (a : Int32) (b : Int32) (c : Int64) (S : hS) : Option (Int64) := (am_ix b 64).bind fun j1 => ((h_Bo_pledgedOf a b S).bind fun q4 => (((S.2.2.2.2.2.2 12 j1)).bind fun b12 => ((h_As_worth q4 (S.2.2.1 302 b12) (S.2.1 303 b12)).bind fun q16 => ((am_ix a 256).bind fun j24 => (((S.2.2.2.2.2.2 11 j24)).bind fun b27 => ((h_As_worth c (S.2.2.1 302 b12) (S.2.1 303 b12)).bind fun q31 => (some (((S.2.2.1 904 b27) - q16) + q31))))))))
set_option maxHeartbeats 4000000 in
set_option maxRecDepth 100000 in
theorem c_Bo_creditIfPledged (a : Int32) (b : Int32) (c : Int64) (S : hS) (h0 : am_H) (hR : RH S h0)  (q : Int64) (hd : h_Bo_creditIfPledged a b c S = some q) : am_Me am_Pr none 1 32 0 0 120 [.ref 10, .int a, .int b, .long c] h0 (am_is (some (.long q)) h0) := by
  refine am_enter (d := hd_Bo_creditIfPledged) rfl (by decide +kernel) (Nat.le_of_ble_eq_true rfl) ?_
  show am_S _ _ _ _ _ _ _ (0, [some (.ref 10), some (.int a), some (.int b), some (.long c), none, none, none, none], [], h0, 0, 0) _
  unfold h_Bo_creditIfPledged at hd
  refine am_steps ok_Bo_creditIfPledged 1 (x' := (1, [some (.ref 10), some (.int a), some (.int b), some (.long c), none, none, none, none], [.ref 10], h0, 0, 0)) rfl (Nat.le_of_ble_eq_true rfl) (Nat.le_of_ble_eq_true rfl) ?_
  refine hr_get ok_Bo_creditIfPledged rfl hR (kd := 4) (hs_k hR (a := 10) rfl) rfl (Nat.le_of_ble_eq_true rfl) (Nat.le_of_ble_eq_true rfl) (v := .ref 12) (congrArg va_rf (hR.2.2.2.2.1 (402, 10, 12) (by decide))) (pc' := 4) rfl (Nat.le_of_ble_eq_true rfl) (Nat.le_of_ble_eq_true rfl) ?_
  refine am_steps ok_Bo_creditIfPledged 1 (x' := (5, [some (.ref 10), some (.int a), some (.int b), some (.long c), none, none, none, none], [.int b, .ref 12], h0, 0, 0)) rfl (Nat.le_of_ble_eq_true rfl) (Nat.le_of_ble_eq_true rfl) ?_
  obtain ⟨j1, hx2, hd3⟩ := Option.bind_eq_some_iff.mp hd; clear hd; have hd := hd3; clear hd3
  refine hr_aald ok_Bo_creditIfPledged rfl hR (kd := 25) (hs_k hR (a := 12) rfl) (by decide) (hs_ln hR rfl) hx2 (pc' := 6) rfl (Nat.le_of_ble_eq_true rfl) (Nat.le_of_ble_eq_true rfl) ?_
  refine hr_astore ok_Bo_creditIfPledged rfl (Nat.le_of_ble_eq_true rfl) (lo' := [some (.ref 10), some (.int a), some (.int b), some (.long c), none, some (va_rf (S.2.2.2.2.2.2 12 j1)), none, none]) rfl (pc' := 8) rfl (Nat.le_of_ble_eq_true rfl) (Nat.le_of_ble_eq_true rfl) ?_
  refine am_steps ok_Bo_creditIfPledged 3 (x' := (11, [some (.ref 10), some (.int a), some (.int b), some (.long c), none, some (va_rf (S.2.2.2.2.2.2 12 j1)), none, none], [.int b, .int a, .ref 10], h0, 0, 0)) rfl (Nat.le_of_ble_eq_true rfl) (Nat.le_of_ble_eq_true rfl) ?_
  obtain ⟨q4, hq5, hd6⟩ := Option.bind_eq_some_iff.mp hd; clear hd; have hd := hd6; clear hd6
  refine ar_cv ok_Bo_creditIfPledged hk_Bo_pledgedOf rfl rfl (As := [.int a, .int b]) (ad := 10) (rest := []) rfl rfl (hR.ob (hs_k hR (a := 10) rfl) (Nat.le_of_ble_eq_true rfl)) (Nat.le_of_ble_eq_true rfl) (c_Bo_pledgedOf a b S h0 hR  q4 hq5) (Nat.le_of_ble_eq_true rfl) (Nat.le_of_ble_eq_true rfl) (Nat.le_of_ble_eq_true rfl) (Nat.le_of_ble_eq_true rfl) (pc' := 14) rfl (fun r7 h9 z8 => ?_)
  obtain ⟨rfl, z11⟩ := z8; rw [z11]
  show am_S _ _ _ _ _ _ _ (14, [some (.ref 10), some (.int a), some (.int b), some (.long c), none, some (va_rf (S.2.2.2.2.2.2 12 j1)), none, none], [.long q4], h0, 0, 0) _
  refine hr_aload ok_Bo_creditIfPledged rfl rfl (pc' := 16) rfl (Nat.le_of_ble_eq_true rfl) (Nat.le_of_ble_eq_true rfl) ?_
  obtain ⟨b12, hb13, hd14⟩ := Option.bind_eq_some_iff.mp hd; clear hd; have hd := hd14; clear hd14
  have hk15 := (fun b hb => hR.2.2.2.1 _ _ (hK.ln (hs_k hR (a := 12) rfl)) _ b hb) b12 hb13
  rw [hb13]
  show am_S _ _ _ _ _ _ _ (16, [some (.ref 10), some (.int a), some (.int b), some (.long c), none, some (.ref b12), none, none], [.ref b12, .long q4], h0, 0, 0) _
  refine hr_get ok_Bo_creditIfPledged rfl hR (kd := 3) hk15 rfl (Nat.le_of_ble_eq_true rfl) (Nat.le_of_ble_eq_true rfl) (v := .long (S.2.2.1 302 b12)) rfl (pc' := 19) rfl (Nat.le_of_ble_eq_true rfl) (Nat.le_of_ble_eq_true rfl) ?_
  refine am_steps ok_Bo_creditIfPledged 1 (x' := (21, [some (.ref 10), some (.int a), some (.int b), some (.long c), none, some (.ref b12), none, none], [.ref b12, .long (S.2.2.1 302 b12), .long q4], h0, 0, 0)) rfl (Nat.le_of_ble_eq_true rfl) (Nat.le_of_ble_eq_true rfl) ?_
  refine hr_get ok_Bo_creditIfPledged rfl hR (kd := 3) hk15 rfl (Nat.le_of_ble_eq_true rfl) (Nat.le_of_ble_eq_true rfl) (v := .int (S.2.1 303 b12)) rfl (pc' := 24) rfl (Nat.le_of_ble_eq_true rfl) (Nat.le_of_ble_eq_true rfl) ?_
  obtain ⟨q16, hq17, hd18⟩ := Option.bind_eq_some_iff.mp hd; clear hd; have hd := hd18; clear hd18
  refine am_call ok_Bo_creditIfPledged hk_As_worth rfl (args' := [.long q4, .long (S.2.2.1 302 b12), .int (S.2.1 303 b12)]) (rest := []) rfl (c_As_worth q4 (S.2.2.1 302 b12) (S.2.1 303 b12) h0 q16 hq17) (Nat.le_of_ble_eq_true rfl) (Nat.le_of_ble_eq_true rfl) (Nat.le_of_ble_eq_true rfl) (Nat.le_of_ble_eq_true rfl) (fun r19 h21 z20 => ?_)
  obtain ⟨rfl, z23⟩ := z20; rw [z23]
  show am_S _ _ _ _ _ _ _ (27, [some (.ref 10), some (.int a), some (.int b), some (.long c), none, some (.ref b12), none, none], [.long q16], h0, 0, 0) _
  refine am_steps ok_Bo_creditIfPledged 2 (x' := (30, [some (.ref 10), some (.int a), some (.int b), some (.long c), none, some (.ref b12), some (.long q16), none], [.ref 10], h0, 0, 0)) rfl (Nat.le_of_ble_eq_true rfl) (Nat.le_of_ble_eq_true rfl) ?_
  refine hr_get ok_Bo_creditIfPledged rfl hR (kd := 4) (hs_k hR (a := 10) rfl) rfl (Nat.le_of_ble_eq_true rfl) (Nat.le_of_ble_eq_true rfl) (v := .ref 11) (congrArg va_rf (hR.2.2.2.2.1 (400, 10, 11) (by decide))) (pc' := 33) rfl (Nat.le_of_ble_eq_true rfl) (Nat.le_of_ble_eq_true rfl) ?_
  refine am_steps ok_Bo_creditIfPledged 1 (x' := (34, [some (.ref 10), some (.int a), some (.int b), some (.long c), none, some (.ref b12), some (.long q16), none], [.int a, .ref 11], h0, 0, 0)) rfl (Nat.le_of_ble_eq_true rfl) (Nat.le_of_ble_eq_true rfl) ?_
  obtain ⟨j24, hx25, hd26⟩ := Option.bind_eq_some_iff.mp hd; clear hd; have hd := hd26; clear hd26
  refine hr_aald ok_Bo_creditIfPledged rfl hR (kd := 24) (hs_k hR (a := 11) rfl) (by decide) (hs_ln hR rfl) hx25 (pc' := 35) rfl (Nat.le_of_ble_eq_true rfl) (Nat.le_of_ble_eq_true rfl) ?_
  obtain ⟨b27, hb28, hd29⟩ := Option.bind_eq_some_iff.mp hd; clear hd; have hd := hd29; clear hd29
  have hk30 := (fun b hb => hR.2.2.2.1 _ _ (hK.ln (hs_k hR (a := 11) rfl)) _ b hb) b27 hb28
  rw [hb28]
  show am_S _ _ _ _ _ _ _ (35, [some (.ref 10), some (.int a), some (.int b), some (.long c), none, some (.ref b12), some (.long q16), none], [.ref b27], h0, 0, 0) _
  refine hr_get ok_Bo_creditIfPledged rfl hR (kd := 9) hk30 rfl (Nat.le_of_ble_eq_true rfl) (Nat.le_of_ble_eq_true rfl) (v := .long (S.2.2.1 904 b27)) rfl (pc' := 38) rfl (Nat.le_of_ble_eq_true rfl) (Nat.le_of_ble_eq_true rfl) ?_
  refine am_steps ok_Bo_creditIfPledged 4 (x' := (44, [some (.ref 10), some (.int a), some (.int b), some (.long c), none, some (.ref b12), some (.long q16), none], [.ref b12, .long c, .long ((S.2.2.1 904 b27) - q16)], h0, 0, 0)) rfl (Nat.le_of_ble_eq_true rfl) (Nat.le_of_ble_eq_true rfl) ?_
  refine hr_get ok_Bo_creditIfPledged rfl hR (kd := 3) hk15 rfl (Nat.le_of_ble_eq_true rfl) (Nat.le_of_ble_eq_true rfl) (v := .long (S.2.2.1 302 b12)) rfl (pc' := 47) rfl (Nat.le_of_ble_eq_true rfl) (Nat.le_of_ble_eq_true rfl) ?_
  refine am_steps ok_Bo_creditIfPledged 1 (x' := (49, [some (.ref 10), some (.int a), some (.int b), some (.long c), none, some (.ref b12), some (.long q16), none], [.ref b12, .long (S.2.2.1 302 b12), .long c, .long ((S.2.2.1 904 b27) - q16)], h0, 0, 0)) rfl (Nat.le_of_ble_eq_true rfl) (Nat.le_of_ble_eq_true rfl) ?_
  refine hr_get ok_Bo_creditIfPledged rfl hR (kd := 3) hk15 rfl (Nat.le_of_ble_eq_true rfl) (Nat.le_of_ble_eq_true rfl) (v := .int (S.2.1 303 b12)) rfl (pc' := 52) rfl (Nat.le_of_ble_eq_true rfl) (Nat.le_of_ble_eq_true rfl) ?_
  obtain ⟨q31, hq32, hd33⟩ := Option.bind_eq_some_iff.mp hd; clear hd; have hd := hd33; clear hd33
  refine am_call ok_Bo_creditIfPledged hk_As_worth rfl (args' := [.long c, .long (S.2.2.1 302 b12), .int (S.2.1 303 b12)]) (rest := [.long ((S.2.2.1 904 b27) - q16)]) rfl (c_As_worth c (S.2.2.1 302 b12) (S.2.1 303 b12) h0 q31 hq32) (Nat.le_of_ble_eq_true rfl) (Nat.le_of_ble_eq_true rfl) (Nat.le_of_ble_eq_true rfl) (Nat.le_of_ble_eq_true rfl) (fun r34 h36 z35 => ?_)
  obtain ⟨rfl, z38⟩ := z35; rw [z38]
  show am_S _ _ _ _ _ _ _ (55, [some (.ref 10), some (.int a), some (.int b), some (.long c), none, some (.ref b12), some (.long q16), none], [.long q31, .long ((S.2.2.1 904 b27) - q16)], h0, 0, 0) _
  refine am_steps ok_Bo_creditIfPledged 1 (x' := (56, [some (.ref 10), some (.int a), some (.int b), some (.long c), none, some (.ref b12), some (.long q16), none], [.long (((S.2.2.1 904 b27) - q16) + q31)], h0, 0, 0)) rfl (Nat.le_of_ble_eq_true rfl) (Nat.le_of_ble_eq_true rfl) ?_
  cases hd; exact am_ret ok_Bo_creditIfPledged rfl (Nat.le_of_ble_eq_true rfl) (Nat.le_of_ble_eq_true rfl) ⟨rfl, rfl⟩
def h_Bo_allCreditIf (a : Int32) (b : Int64) (S : hS) : Option (Int64) := (am_ix a 256).bind fun j1 => (((S.2.2.2.2.2.2 11 j1)).bind fun b4 => (some (((S.2.2.1 406 10) - (S.2.2.1 904 b4)) + b)))
set_option maxHeartbeats 4000000 in
set_option maxRecDepth 100000 in
theorem c_Bo_allCreditIf (a : Int32) (b : Int64) (S : hS) (h0 : am_H) (hR : RH S h0)  (q : Int64) (hd : h_Bo_allCreditIf a b S = some q) : am_Me am_Pr none 0 0 0 0 123 [.ref 10, .int a, .long b] h0 (am_is (some (.long q)) h0) := by
  refine am_enter (d := hd_Bo_allCreditIf) rfl (by decide +kernel) (Nat.le_of_ble_eq_true rfl) ?_
  show am_S _ _ _ _ _ _ _ (0, [some (.ref 10), some (.int a), some (.long b), none], [], h0, 0, 0) _
  unfold h_Bo_allCreditIf at hd
  refine am_steps ok_Bo_allCreditIf 1 (x' := (1, [some (.ref 10), some (.int a), some (.long b), none], [.ref 10], h0, 0, 0)) rfl (Nat.le_of_ble_eq_true rfl) (Nat.le_of_ble_eq_true rfl) ?_
  refine hr_get ok_Bo_allCreditIf rfl hR (kd := 4) (hs_k hR (a := 10) rfl) rfl (Nat.le_of_ble_eq_true rfl) (Nat.le_of_ble_eq_true rfl) (v := .long (S.2.2.1 406 10)) rfl (pc' := 4) rfl (Nat.le_of_ble_eq_true rfl) (Nat.le_of_ble_eq_true rfl) ?_
  refine am_steps ok_Bo_allCreditIf 1 (x' := (5, [some (.ref 10), some (.int a), some (.long b), none], [.ref 10, .long (S.2.2.1 406 10)], h0, 0, 0)) rfl (Nat.le_of_ble_eq_true rfl) (Nat.le_of_ble_eq_true rfl) ?_
  refine hr_get ok_Bo_allCreditIf rfl hR (kd := 4) (hs_k hR (a := 10) rfl) rfl (Nat.le_of_ble_eq_true rfl) (Nat.le_of_ble_eq_true rfl) (v := .ref 11) (congrArg va_rf (hR.2.2.2.2.1 (400, 10, 11) (by decide))) (pc' := 8) rfl (Nat.le_of_ble_eq_true rfl) (Nat.le_of_ble_eq_true rfl) ?_
  refine am_steps ok_Bo_allCreditIf 1 (x' := (9, [some (.ref 10), some (.int a), some (.long b), none], [.int a, .ref 11, .long (S.2.2.1 406 10)], h0, 0, 0)) rfl (Nat.le_of_ble_eq_true rfl) (Nat.le_of_ble_eq_true rfl) ?_
  obtain ⟨j1, hx2, hd3⟩ := Option.bind_eq_some_iff.mp hd; clear hd; have hd := hd3; clear hd3
  refine hr_aald ok_Bo_allCreditIf rfl hR (kd := 24) (hs_k hR (a := 11) rfl) (by decide) (hs_ln hR rfl) hx2 (pc' := 10) rfl (Nat.le_of_ble_eq_true rfl) (Nat.le_of_ble_eq_true rfl) ?_
  obtain ⟨b4, hb5, hd6⟩ := Option.bind_eq_some_iff.mp hd; clear hd; have hd := hd6; clear hd6
  have hk7 := (fun b hb => hR.2.2.2.1 _ _ (hK.ln (hs_k hR (a := 11) rfl)) _ b hb) b4 hb5
  rw [hb5]
  show am_S _ _ _ _ _ _ _ (10, [some (.ref 10), some (.int a), some (.long b), none], [.ref b4, .long (S.2.2.1 406 10)], h0, 0, 0) _
  refine hr_get ok_Bo_allCreditIf rfl hR (kd := 9) hk7 rfl (Nat.le_of_ble_eq_true rfl) (Nat.le_of_ble_eq_true rfl) (v := .long (S.2.2.1 904 b4)) rfl (pc' := 13) rfl (Nat.le_of_ble_eq_true rfl) (Nat.le_of_ble_eq_true rfl) ?_
  refine am_steps ok_Bo_allCreditIf 3 (x' := (16, [some (.ref 10), some (.int a), some (.long b), none], [.long (((S.2.2.1 406 10) - (S.2.2.1 904 b4)) + b)], h0, 0, 0)) rfl (Nat.le_of_ble_eq_true rfl) (Nat.le_of_ble_eq_true rfl) ?_
  cases hd; exact am_ret ok_Bo_allCreditIf rfl (Nat.le_of_ble_eq_true rfl) (Nat.le_of_ble_eq_true rfl) ⟨rfl, rfl⟩
def h_De_judgePledge  (S : hS) : Option (Int32) := (h_De_canBePledged  S).bind fun q1 => (if ¬ (q1 : Int32) = 0 then ((am_ix 0 12).bind fun j10 => ((h_Bo_pledgedOf (S.2.1 813 2) (S.2.2.2.2.1 5 j10) S).bind fun q13 => ((am_ix 0 4).bind fun j21 => ((h_Bo_levelOf (S.2.1 813 2) (S.2.2.2.2.1 5 j10) S).bind fun q24 => (if ((lg_cmp (q13 + (S.2.2.2.2.2.1 6 j21)) q24) : Int32) ≤ 0 then ((h_Bo_creditIfPledged (S.2.1 813 2) (S.2.2.2.2.1 5 j10) (q13 + (S.2.2.2.2.2.1 6 j21)) S).bind fun q33 => ((h_Bo_allCreditIf (S.2.1 813 2) q33 S).bind fun q41 => (if ((lg_cmp q41 (Int64.ofNat 4000000000000000000)) : Int32) ≤ 0 then (some 0) else (some 10)))) else (some 9)))))) else (some 8))
set_option maxHeartbeats 4000000 in
set_option maxRecDepth 100000 in
theorem c_De_judgePledge  (S : hS) (h0 : am_H) (hR : RH S h0)  (q : Int32) (hd : h_De_judgePledge  S = some q) : am_Me am_Pr none 2 59 0 0 150 [.ref 20, .ref 2] h0 (am_is (some (.int q)) h0) := by
  refine am_enter (d := hd_De_judgePledge) rfl (by decide +kernel) (Nat.le_of_ble_eq_true rfl) ?_
  show am_S _ _ _ _ _ _ _ (0, [some (.ref 20), some (.ref 2), none, none, none, none], [], h0, 0, 0) _
  unfold h_De_judgePledge at hd
  refine am_steps ok_De_judgePledge 2 (x' := (2, [some (.ref 20), some (.ref 2), none, none, none, none], [.ref 2, .ref 20], h0, 0, 0)) rfl (Nat.le_of_ble_eq_true rfl) (Nat.le_of_ble_eq_true rfl) ?_
  obtain ⟨q1, hq2, hd3⟩ := Option.bind_eq_some_iff.mp hd; clear hd; have hd := hd3; clear hd3
  refine ar_cv ok_De_judgePledge hk_De_canBePledged rfl rfl (As := [.ref 2]) (ad := 20) (rest := []) rfl rfl (hR.ob (hs_k hR (a := 20) rfl) (Nat.le_of_ble_eq_true rfl)) (Nat.le_of_ble_eq_true rfl) (c_De_canBePledged  S h0 hR  q1 hq2) (Nat.le_of_ble_eq_true rfl) (Nat.le_of_ble_eq_true rfl) (Nat.le_of_ble_eq_true rfl) (Nat.le_of_ble_eq_true rfl) (pc' := 5) rfl (fun r4 h6 z5 => ?_)
  obtain ⟨rfl, z8⟩ := z5; rw [z8]
  show am_S _ _ _ _ _ _ _ (5, [some (.ref 20), some (.ref 2), none, none, none, none], [.int q1], h0, 0, 0) _
  refine am_steps ok_De_judgePledge 1 (x' := (if ¬ (q1 : Int32) = 0 then 11 else 8, [some (.ref 20), some (.ref 2), none, none, none, none], [], h0, 0, 0)) rfl (Nat.le_of_ble_eq_true rfl) (Nat.le_of_ble_eq_true rfl) ?_
  refine am_if (fun hc9 => ?_) (fun hc9 => ?_)
  · rw [if_pos hc9] at hd
    refine am_steps ok_De_judgePledge 1 (x' := (12, [some (.ref 20), some (.ref 2), none, none, none, none], [.ref 20], h0, 0, 0)) rfl (Nat.le_of_ble_eq_true rfl) (Nat.le_of_ble_eq_true rfl) ?_
    refine hr_get ok_De_judgePledge rfl hR (kd := 5) (hs_k hR (a := 20) rfl) rfl (Nat.le_of_ble_eq_true rfl) (Nat.le_of_ble_eq_true rfl) (v := .ref 10) (congrArg va_rf (hR.2.2.2.2.1 (500, 20, 10) (by decide))) (pc' := 15) rfl (Nat.le_of_ble_eq_true rfl) (Nat.le_of_ble_eq_true rfl) ?_
    refine am_steps ok_De_judgePledge 1 (x' := (16, [some (.ref 20), some (.ref 2), none, none, none, none], [.ref 2, .ref 10], h0, 0, 0)) rfl (Nat.le_of_ble_eq_true rfl) (Nat.le_of_ble_eq_true rfl) ?_
    refine hr_get ok_De_judgePledge rfl hR (kd := 8) (hs_k hR (a := 2) rfl) rfl (Nat.le_of_ble_eq_true rfl) (Nat.le_of_ble_eq_true rfl) (v := .int (S.2.1 813 2)) rfl (pc' := 19) rfl (Nat.le_of_ble_eq_true rfl) (Nat.le_of_ble_eq_true rfl) ?_
    refine am_steps ok_De_judgePledge 1 (x' := (20, [some (.ref 20), some (.ref 2), none, none, none, none], [.ref 2, .int (S.2.1 813 2), .ref 10], h0, 0, 0)) rfl (Nat.le_of_ble_eq_true rfl) (Nat.le_of_ble_eq_true rfl) ?_
    refine hr_get ok_De_judgePledge rfl hR (kd := 8) (hs_k hR (a := 2) rfl) rfl (Nat.le_of_ble_eq_true rfl) (Nat.le_of_ble_eq_true rfl) (v := .ref 5) (congrArg va_rf (hR.2.2.2.2.1 (809, 2, 5) (by decide))) (pc' := 23) rfl (Nat.le_of_ble_eq_true rfl) (Nat.le_of_ble_eq_true rfl) ?_
    refine am_steps ok_De_judgePledge 1 (x' := (24, [some (.ref 20), some (.ref 2), none, none, none, none], [.int 0, .ref 5, .int (S.2.1 813 2), .ref 10], h0, 0, 0)) rfl (Nat.le_of_ble_eq_true rfl) (Nat.le_of_ble_eq_true rfl) ?_
    obtain ⟨j10, hx11, hd12⟩ := Option.bind_eq_some_iff.mp hd; clear hd; have hd := hd12; clear hd12
    refine hr_iald ok_De_judgePledge rfl hR (hs_k hR (a := 5) rfl) (hs_ln hR rfl) hx11 (pc' := 25) rfl (Nat.le_of_ble_eq_true rfl) (Nat.le_of_ble_eq_true rfl) ?_
    obtain ⟨q13, hq14, hd15⟩ := Option.bind_eq_some_iff.mp hd; clear hd; have hd := hd15; clear hd15
    refine ar_cv ok_De_judgePledge hk_Bo_pledgedOf rfl rfl (As := [.int (S.2.1 813 2), .int (S.2.2.2.2.1 5 j10)]) (ad := 10) (rest := []) rfl rfl (hR.ob (hs_k hR (a := 10) rfl) (Nat.le_of_ble_eq_true rfl)) (Nat.le_of_ble_eq_true rfl) (c_Bo_pledgedOf (S.2.1 813 2) (S.2.2.2.2.1 5 j10) S h0 hR  q13 hq14) (Nat.le_of_ble_eq_true rfl) (Nat.le_of_ble_eq_true rfl) (Nat.le_of_ble_eq_true rfl) (Nat.le_of_ble_eq_true rfl) (pc' := 28) rfl (fun r16 h18 z17 => ?_)
    obtain ⟨rfl, z20⟩ := z17; rw [z20]
    show am_S _ _ _ _ _ _ _ (28, [some (.ref 20), some (.ref 2), none, none, none, none], [.long q13], h0, 0, 0) _
    refine am_steps ok_De_judgePledge 1 (x' := (29, [some (.ref 20), some (.ref 2), none, none, none, none], [.ref 2, .long q13], h0, 0, 0)) rfl (Nat.le_of_ble_eq_true rfl) (Nat.le_of_ble_eq_true rfl) ?_
    refine hr_get ok_De_judgePledge rfl hR (kd := 8) (hs_k hR (a := 2) rfl) rfl (Nat.le_of_ble_eq_true rfl) (Nat.le_of_ble_eq_true rfl) (v := .ref 6) (congrArg va_rf (hR.2.2.2.2.1 (811, 2, 6) (by decide))) (pc' := 32) rfl (Nat.le_of_ble_eq_true rfl) (Nat.le_of_ble_eq_true rfl) ?_
    refine am_steps ok_De_judgePledge 1 (x' := (33, [some (.ref 20), some (.ref 2), none, none, none, none], [.int 0, .ref 6, .long q13], h0, 0, 0)) rfl (Nat.le_of_ble_eq_true rfl) (Nat.le_of_ble_eq_true rfl) ?_
    obtain ⟨j21, hx22, hd23⟩ := Option.bind_eq_some_iff.mp hd; clear hd; have hd := hd23; clear hd23
    refine hr_lald ok_De_judgePledge rfl hR (hs_k hR (a := 6) rfl) (hs_ln hR rfl) hx22 (pc' := 34) rfl (Nat.le_of_ble_eq_true rfl) (Nat.le_of_ble_eq_true rfl) ?_
    refine am_steps ok_De_judgePledge 4 (x' := (38, [some (.ref 20), some (.ref 2), some (.long (q13 + (S.2.2.2.2.2.1 6 j21))), none, none, none], [.ref 20, .long (q13 + (S.2.2.2.2.2.1 6 j21))], h0, 0, 0)) rfl (Nat.le_of_ble_eq_true rfl) (Nat.le_of_ble_eq_true rfl) ?_
    refine hr_get ok_De_judgePledge rfl hR (kd := 5) (hs_k hR (a := 20) rfl) rfl (Nat.le_of_ble_eq_true rfl) (Nat.le_of_ble_eq_true rfl) (v := .ref 10) (congrArg va_rf (hR.2.2.2.2.1 (500, 20, 10) (by decide))) (pc' := 41) rfl (Nat.le_of_ble_eq_true rfl) (Nat.le_of_ble_eq_true rfl) ?_
    refine am_steps ok_De_judgePledge 1 (x' := (42, [some (.ref 20), some (.ref 2), some (.long (q13 + (S.2.2.2.2.2.1 6 j21))), none, none, none], [.ref 2, .ref 10, .long (q13 + (S.2.2.2.2.2.1 6 j21))], h0, 0, 0)) rfl (Nat.le_of_ble_eq_true rfl) (Nat.le_of_ble_eq_true rfl) ?_
    refine hr_get ok_De_judgePledge rfl hR (kd := 8) (hs_k hR (a := 2) rfl) rfl (Nat.le_of_ble_eq_true rfl) (Nat.le_of_ble_eq_true rfl) (v := .int (S.2.1 813 2)) rfl (pc' := 45) rfl (Nat.le_of_ble_eq_true rfl) (Nat.le_of_ble_eq_true rfl) ?_
    refine am_steps ok_De_judgePledge 1 (x' := (46, [some (.ref 20), some (.ref 2), some (.long (q13 + (S.2.2.2.2.2.1 6 j21))), none, none, none], [.ref 2, .int (S.2.1 813 2), .ref 10, .long (q13 + (S.2.2.2.2.2.1 6 j21))], h0, 0, 0)) rfl (Nat.le_of_ble_eq_true rfl) (Nat.le_of_ble_eq_true rfl) ?_
    refine hr_get ok_De_judgePledge rfl hR (kd := 8) (hs_k hR (a := 2) rfl) rfl (Nat.le_of_ble_eq_true rfl) (Nat.le_of_ble_eq_true rfl) (v := .ref 5) (congrArg va_rf (hR.2.2.2.2.1 (809, 2, 5) (by decide))) (pc' := 49) rfl (Nat.le_of_ble_eq_true rfl) (Nat.le_of_ble_eq_true rfl) ?_
    refine am_steps ok_De_judgePledge 1 (x' := (50, [some (.ref 20), some (.ref 2), some (.long (q13 + (S.2.2.2.2.2.1 6 j21))), none, none, none], [.int 0, .ref 5, .int (S.2.1 813 2), .ref 10, .long (q13 + (S.2.2.2.2.2.1 6 j21))], h0, 0, 0)) rfl (Nat.le_of_ble_eq_true rfl) (Nat.le_of_ble_eq_true rfl) ?_
    refine hr_iald ok_De_judgePledge rfl hR (hs_k hR (a := 5) rfl) (hs_ln hR rfl) hx11 (pc' := 51) rfl (Nat.le_of_ble_eq_true rfl) (Nat.le_of_ble_eq_true rfl) ?_
    obtain ⟨q24, hq25, hd26⟩ := Option.bind_eq_some_iff.mp hd; clear hd; have hd := hd26; clear hd26
    refine ar_cv ok_De_judgePledge hk_Bo_levelOf rfl rfl (As := [.int (S.2.1 813 2), .int (S.2.2.2.2.1 5 j10)]) (ad := 10) (rest := [.long (q13 + (S.2.2.2.2.2.1 6 j21))]) rfl rfl (hR.ob (hs_k hR (a := 10) rfl) (Nat.le_of_ble_eq_true rfl)) (Nat.le_of_ble_eq_true rfl) (c_Bo_levelOf (S.2.1 813 2) (S.2.2.2.2.1 5 j10) S h0 hR  q24 hq25) (Nat.le_of_ble_eq_true rfl) (Nat.le_of_ble_eq_true rfl) (Nat.le_of_ble_eq_true rfl) (Nat.le_of_ble_eq_true rfl) (pc' := 54) rfl (fun r27 h29 z28 => ?_)
    obtain ⟨rfl, z31⟩ := z28; rw [z31]
    show am_S _ _ _ _ _ _ _ (54, [some (.ref 20), some (.ref 2), some (.long (q13 + (S.2.2.2.2.2.1 6 j21))), none, none, none], [.long q24, .long (q13 + (S.2.2.2.2.2.1 6 j21))], h0, 0, 0) _
    refine am_steps ok_De_judgePledge 2 (x' := (if ((lg_cmp (q13 + (S.2.2.2.2.2.1 6 j21)) q24) : Int32) ≤ 0 then 61 else 58, [some (.ref 20), some (.ref 2), some (.long (q13 + (S.2.2.2.2.2.1 6 j21))), none, none, none], [], h0, 0, 0)) rfl (Nat.le_of_ble_eq_true rfl) (Nat.le_of_ble_eq_true rfl) ?_
    refine am_if (fun hc32 => ?_) (fun hc32 => ?_)
    · rw [if_pos hc32] at hd
      refine am_steps ok_De_judgePledge 1 (x' := (62, [some (.ref 20), some (.ref 2), some (.long (q13 + (S.2.2.2.2.2.1 6 j21))), none, none, none], [.ref 20], h0, 0, 0)) rfl (Nat.le_of_ble_eq_true rfl) (Nat.le_of_ble_eq_true rfl) ?_
      refine hr_get ok_De_judgePledge rfl hR (kd := 5) (hs_k hR (a := 20) rfl) rfl (Nat.le_of_ble_eq_true rfl) (Nat.le_of_ble_eq_true rfl) (v := .ref 10) (congrArg va_rf (hR.2.2.2.2.1 (500, 20, 10) (by decide))) (pc' := 65) rfl (Nat.le_of_ble_eq_true rfl) (Nat.le_of_ble_eq_true rfl) ?_
      refine am_steps ok_De_judgePledge 1 (x' := (66, [some (.ref 20), some (.ref 2), some (.long (q13 + (S.2.2.2.2.2.1 6 j21))), none, none, none], [.ref 2, .ref 10], h0, 0, 0)) rfl (Nat.le_of_ble_eq_true rfl) (Nat.le_of_ble_eq_true rfl) ?_
      refine hr_get ok_De_judgePledge rfl hR (kd := 8) (hs_k hR (a := 2) rfl) rfl (Nat.le_of_ble_eq_true rfl) (Nat.le_of_ble_eq_true rfl) (v := .int (S.2.1 813 2)) rfl (pc' := 69) rfl (Nat.le_of_ble_eq_true rfl) (Nat.le_of_ble_eq_true rfl) ?_
      refine am_steps ok_De_judgePledge 1 (x' := (70, [some (.ref 20), some (.ref 2), some (.long (q13 + (S.2.2.2.2.2.1 6 j21))), none, none, none], [.ref 2, .int (S.2.1 813 2), .ref 10], h0, 0, 0)) rfl (Nat.le_of_ble_eq_true rfl) (Nat.le_of_ble_eq_true rfl) ?_
      refine hr_get ok_De_judgePledge rfl hR (kd := 8) (hs_k hR (a := 2) rfl) rfl (Nat.le_of_ble_eq_true rfl) (Nat.le_of_ble_eq_true rfl) (v := .ref 5) (congrArg va_rf (hR.2.2.2.2.1 (809, 2, 5) (by decide))) (pc' := 73) rfl (Nat.le_of_ble_eq_true rfl) (Nat.le_of_ble_eq_true rfl) ?_
      refine am_steps ok_De_judgePledge 1 (x' := (74, [some (.ref 20), some (.ref 2), some (.long (q13 + (S.2.2.2.2.2.1 6 j21))), none, none, none], [.int 0, .ref 5, .int (S.2.1 813 2), .ref 10], h0, 0, 0)) rfl (Nat.le_of_ble_eq_true rfl) (Nat.le_of_ble_eq_true rfl) ?_
      refine hr_iald ok_De_judgePledge rfl hR (hs_k hR (a := 5) rfl) (hs_ln hR rfl) hx11 (pc' := 75) rfl (Nat.le_of_ble_eq_true rfl) (Nat.le_of_ble_eq_true rfl) ?_
      refine am_steps ok_De_judgePledge 1 (x' := (76, [some (.ref 20), some (.ref 2), some (.long (q13 + (S.2.2.2.2.2.1 6 j21))), none, none, none], [.long (q13 + (S.2.2.2.2.2.1 6 j21)), .int (S.2.2.2.2.1 5 j10), .int (S.2.1 813 2), .ref 10], h0, 0, 0)) rfl (Nat.le_of_ble_eq_true rfl) (Nat.le_of_ble_eq_true rfl) ?_
      obtain ⟨q33, hq34, hd35⟩ := Option.bind_eq_some_iff.mp hd; clear hd; have hd := hd35; clear hd35
      refine ar_cv ok_De_judgePledge hk_Bo_creditIfPledged rfl rfl (As := [.int (S.2.1 813 2), .int (S.2.2.2.2.1 5 j10), .long (q13 + (S.2.2.2.2.2.1 6 j21))]) (ad := 10) (rest := []) rfl rfl (hR.ob (hs_k hR (a := 10) rfl) (Nat.le_of_ble_eq_true rfl)) (Nat.le_of_ble_eq_true rfl) (c_Bo_creditIfPledged (S.2.1 813 2) (S.2.2.2.2.1 5 j10) (q13 + (S.2.2.2.2.2.1 6 j21)) S h0 hR  q33 hq34) (Nat.le_of_ble_eq_true rfl) (Nat.le_of_ble_eq_true rfl) (Nat.le_of_ble_eq_true rfl) (Nat.le_of_ble_eq_true rfl) (pc' := 79) rfl (fun r36 h38 z37 => ?_)
      obtain ⟨rfl, z40⟩ := z37; rw [z40]
      show am_S _ _ _ _ _ _ _ (79, [some (.ref 20), some (.ref 2), some (.long (q13 + (S.2.2.2.2.2.1 6 j21))), none, none, none], [.long q33], h0, 0, 0) _
      refine am_steps ok_De_judgePledge 2 (x' := (82, [some (.ref 20), some (.ref 2), some (.long (q13 + (S.2.2.2.2.2.1 6 j21))), none, some (.long q33), none], [.ref 20], h0, 0, 0)) rfl (Nat.le_of_ble_eq_true rfl) (Nat.le_of_ble_eq_true rfl) ?_
      refine hr_get ok_De_judgePledge rfl hR (kd := 5) (hs_k hR (a := 20) rfl) rfl (Nat.le_of_ble_eq_true rfl) (Nat.le_of_ble_eq_true rfl) (v := .ref 10) (congrArg va_rf (hR.2.2.2.2.1 (500, 20, 10) (by decide))) (pc' := 85) rfl (Nat.le_of_ble_eq_true rfl) (Nat.le_of_ble_eq_true rfl) ?_
      refine am_steps ok_De_judgePledge 1 (x' := (86, [some (.ref 20), some (.ref 2), some (.long (q13 + (S.2.2.2.2.2.1 6 j21))), none, some (.long q33), none], [.ref 2, .ref 10], h0, 0, 0)) rfl (Nat.le_of_ble_eq_true rfl) (Nat.le_of_ble_eq_true rfl) ?_
      refine hr_get ok_De_judgePledge rfl hR (kd := 8) (hs_k hR (a := 2) rfl) rfl (Nat.le_of_ble_eq_true rfl) (Nat.le_of_ble_eq_true rfl) (v := .int (S.2.1 813 2)) rfl (pc' := 89) rfl (Nat.le_of_ble_eq_true rfl) (Nat.le_of_ble_eq_true rfl) ?_
      refine am_steps ok_De_judgePledge 1 (x' := (91, [some (.ref 20), some (.ref 2), some (.long (q13 + (S.2.2.2.2.2.1 6 j21))), none, some (.long q33), none], [.long q33, .int (S.2.1 813 2), .ref 10], h0, 0, 0)) rfl (Nat.le_of_ble_eq_true rfl) (Nat.le_of_ble_eq_true rfl) ?_
      obtain ⟨q41, hq42, hd43⟩ := Option.bind_eq_some_iff.mp hd; clear hd; have hd := hd43; clear hd43
      refine ar_cv ok_De_judgePledge hk_Bo_allCreditIf rfl rfl (As := [.int (S.2.1 813 2), .long q33]) (ad := 10) (rest := []) rfl rfl (hR.ob (hs_k hR (a := 10) rfl) (Nat.le_of_ble_eq_true rfl)) (Nat.le_of_ble_eq_true rfl) (c_Bo_allCreditIf (S.2.1 813 2) q33 S h0 hR  q41 hq42) (Nat.le_of_ble_eq_true rfl) (Nat.le_of_ble_eq_true rfl) (Nat.le_of_ble_eq_true rfl) (Nat.le_of_ble_eq_true rfl) (pc' := 94) rfl (fun r44 h46 z45 => ?_)
      obtain ⟨rfl, z48⟩ := z45; rw [z48]
      show am_S _ _ _ _ _ _ _ (94, [some (.ref 20), some (.ref 2), some (.long (q13 + (S.2.2.2.2.2.1 6 j21))), none, some (.long q33), none], [.long q41], h0, 0, 0) _
      refine am_steps ok_De_judgePledge 3 (x' := (if ((lg_cmp q41 (Int64.ofNat 4000000000000000000)) : Int32) ≤ 0 then 106 else 101, [some (.ref 20), some (.ref 2), some (.long (q13 + (S.2.2.2.2.2.1 6 j21))), none, some (.long q33), none], [], h0, 0, 0)) rfl (Nat.le_of_ble_eq_true rfl) (Nat.le_of_ble_eq_true rfl) ?_
      refine am_if (fun hc49 => ?_) (fun hc49 => ?_)
      · rw [if_pos hc49] at hd
        refine am_steps ok_De_judgePledge 1 (x' := (107, [some (.ref 20), some (.ref 2), some (.long (q13 + (S.2.2.2.2.2.1 6 j21))), none, some (.long q33), none], [.int 0], h0, 0, 0)) rfl (Nat.le_of_ble_eq_true rfl) (Nat.le_of_ble_eq_true rfl) ?_
        cases hd; exact am_ret ok_De_judgePledge rfl (Nat.le_of_ble_eq_true rfl) (Nat.le_of_ble_eq_true rfl) ⟨rfl, rfl⟩
      · rw [if_neg hc49] at hd
        refine am_steps ok_De_judgePledge 2 (x' := (107, [some (.ref 20), some (.ref 2), some (.long (q13 + (S.2.2.2.2.2.1 6 j21))), none, some (.long q33), none], [.int 10], h0, 0, 0)) rfl (Nat.le_of_ble_eq_true rfl) (Nat.le_of_ble_eq_true rfl) ?_
        cases hd; exact am_ret ok_De_judgePledge rfl (Nat.le_of_ble_eq_true rfl) (Nat.le_of_ble_eq_true rfl) ⟨rfl, rfl⟩
    · rw [if_neg hc32] at hd
      refine am_steps ok_De_judgePledge 1 (x' := (60, [some (.ref 20), some (.ref 2), some (.long (q13 + (S.2.2.2.2.2.1 6 j21))), none, none, none], [.int 9], h0, 0, 0)) rfl (Nat.le_of_ble_eq_true rfl) (Nat.le_of_ble_eq_true rfl) ?_
      cases hd; exact am_ret ok_De_judgePledge rfl (Nat.le_of_ble_eq_true rfl) (Nat.le_of_ble_eq_true rfl) ⟨rfl, rfl⟩
  · rw [if_neg hc9] at hd
    refine am_steps ok_De_judgePledge 1 (x' := (10, [some (.ref 20), some (.ref 2), none, none, none, none], [.int 8], h0, 0, 0)) rfl (Nat.le_of_ble_eq_true rfl) (Nat.le_of_ble_eq_true rfl) ?_
    cases hd; exact am_ret ok_De_judgePledge rfl (Nat.le_of_ble_eq_true rfl) (Nat.le_of_ble_eq_true rfl) ⟨rfl, rfl⟩
def h_De_judgeUnpledge  (S : hS) : Option (Int32) := (h_De_canBePledged  S).bind fun q1 => (if ¬ (q1 : Int32) = 0 then ((am_ix 0 12).bind fun j10 => ((h_Bo_pledgedOf (S.2.1 813 2) (S.2.2.2.2.1 5 j10) S).bind fun q13 => ((am_ix 0 4).bind fun j21 => (if (0 : Int32) ≤ (lg_cmp (q13 - (S.2.2.2.2.2.1 6 j21)) 0) then ((h_Bo_creditIfPledged (S.2.1 813 2) (S.2.2.2.2.1 5 j10) (q13 - (S.2.2.2.2.2.1 6 j21)) S).bind fun q25 => ((h_Bo_canHaveCredit (S.2.1 813 2) q25 S).bind fun q33 => (if (q33 : Int32) = 0 then (some 9) else (some 0)))) else (some 8))))) else (some 8))
set_option maxHeartbeats 4000000 in
set_option maxRecDepth 100000 in
theorem c_De_judgeUnpledge  (S : hS) (h0 : am_H) (hR : RH S h0)  (q : Int32) (hd : h_De_judgeUnpledge  S = some q) : am_Me am_Pr none 2 59 0 0 151 [.ref 20, .ref 2] h0 (am_is (some (.int q)) h0) := by
  refine am_enter (d := hd_De_judgeUnpledge) rfl (by decide +kernel) (Nat.le_of_ble_eq_true rfl) ?_
  show am_S _ _ _ _ _ _ _ (0, [some (.ref 20), some (.ref 2), none, none, none, none], [], h0, 0, 0) _
  unfold h_De_judgeUnpledge at hd
  refine am_steps ok_De_judgeUnpledge 2 (x' := (2, [some (.ref 20), some (.ref 2), none, none, none, none], [.ref 2, .ref 20], h0, 0, 0)) rfl (Nat.le_of_ble_eq_true rfl) (Nat.le_of_ble_eq_true rfl) ?_
  obtain ⟨q1, hq2, hd3⟩ := Option.bind_eq_some_iff.mp hd; clear hd; have hd := hd3; clear hd3
  refine ar_cv ok_De_judgeUnpledge hk_De_canBePledged rfl rfl (As := [.ref 2]) (ad := 20) (rest := []) rfl rfl (hR.ob (hs_k hR (a := 20) rfl) (Nat.le_of_ble_eq_true rfl)) (Nat.le_of_ble_eq_true rfl) (c_De_canBePledged  S h0 hR  q1 hq2) (Nat.le_of_ble_eq_true rfl) (Nat.le_of_ble_eq_true rfl) (Nat.le_of_ble_eq_true rfl) (Nat.le_of_ble_eq_true rfl) (pc' := 5) rfl (fun r4 h6 z5 => ?_)
  obtain ⟨rfl, z8⟩ := z5; rw [z8]
  show am_S _ _ _ _ _ _ _ (5, [some (.ref 20), some (.ref 2), none, none, none, none], [.int q1], h0, 0, 0) _
  refine am_steps ok_De_judgeUnpledge 1 (x' := (if ¬ (q1 : Int32) = 0 then 11 else 8, [some (.ref 20), some (.ref 2), none, none, none, none], [], h0, 0, 0)) rfl (Nat.le_of_ble_eq_true rfl) (Nat.le_of_ble_eq_true rfl) ?_
  refine am_if (fun hc9 => ?_) (fun hc9 => ?_)
  · rw [if_pos hc9] at hd
    refine am_steps ok_De_judgeUnpledge 1 (x' := (12, [some (.ref 20), some (.ref 2), none, none, none, none], [.ref 20], h0, 0, 0)) rfl (Nat.le_of_ble_eq_true rfl) (Nat.le_of_ble_eq_true rfl) ?_
    refine hr_get ok_De_judgeUnpledge rfl hR (kd := 5) (hs_k hR (a := 20) rfl) rfl (Nat.le_of_ble_eq_true rfl) (Nat.le_of_ble_eq_true rfl) (v := .ref 10) (congrArg va_rf (hR.2.2.2.2.1 (500, 20, 10) (by decide))) (pc' := 15) rfl (Nat.le_of_ble_eq_true rfl) (Nat.le_of_ble_eq_true rfl) ?_
    refine am_steps ok_De_judgeUnpledge 1 (x' := (16, [some (.ref 20), some (.ref 2), none, none, none, none], [.ref 2, .ref 10], h0, 0, 0)) rfl (Nat.le_of_ble_eq_true rfl) (Nat.le_of_ble_eq_true rfl) ?_
    refine hr_get ok_De_judgeUnpledge rfl hR (kd := 8) (hs_k hR (a := 2) rfl) rfl (Nat.le_of_ble_eq_true rfl) (Nat.le_of_ble_eq_true rfl) (v := .int (S.2.1 813 2)) rfl (pc' := 19) rfl (Nat.le_of_ble_eq_true rfl) (Nat.le_of_ble_eq_true rfl) ?_
    refine am_steps ok_De_judgeUnpledge 1 (x' := (20, [some (.ref 20), some (.ref 2), none, none, none, none], [.ref 2, .int (S.2.1 813 2), .ref 10], h0, 0, 0)) rfl (Nat.le_of_ble_eq_true rfl) (Nat.le_of_ble_eq_true rfl) ?_
    refine hr_get ok_De_judgeUnpledge rfl hR (kd := 8) (hs_k hR (a := 2) rfl) rfl (Nat.le_of_ble_eq_true rfl) (Nat.le_of_ble_eq_true rfl) (v := .ref 5) (congrArg va_rf (hR.2.2.2.2.1 (809, 2, 5) (by decide))) (pc' := 23) rfl (Nat.le_of_ble_eq_true rfl) (Nat.le_of_ble_eq_true rfl) ?_
    refine am_steps ok_De_judgeUnpledge 1 (x' := (24, [some (.ref 20), some (.ref 2), none, none, none, none], [.int 0, .ref 5, .int (S.2.1 813 2), .ref 10], h0, 0, 0)) rfl (Nat.le_of_ble_eq_true rfl) (Nat.le_of_ble_eq_true rfl) ?_
    obtain ⟨j10, hx11, hd12⟩ := Option.bind_eq_some_iff.mp hd; clear hd; have hd := hd12; clear hd12
    refine hr_iald ok_De_judgeUnpledge rfl hR (hs_k hR (a := 5) rfl) (hs_ln hR rfl) hx11 (pc' := 25) rfl (Nat.le_of_ble_eq_true rfl) (Nat.le_of_ble_eq_true rfl) ?_
    obtain ⟨q13, hq14, hd15⟩ := Option.bind_eq_some_iff.mp hd; clear hd; have hd := hd15; clear hd15
    refine ar_cv ok_De_judgeUnpledge hk_Bo_pledgedOf rfl rfl (As := [.int (S.2.1 813 2), .int (S.2.2.2.2.1 5 j10)]) (ad := 10) (rest := []) rfl rfl (hR.ob (hs_k hR (a := 10) rfl) (Nat.le_of_ble_eq_true rfl)) (Nat.le_of_ble_eq_true rfl) (c_Bo_pledgedOf (S.2.1 813 2) (S.2.2.2.2.1 5 j10) S h0 hR  q13 hq14) (Nat.le_of_ble_eq_true rfl) (Nat.le_of_ble_eq_true rfl) (Nat.le_of_ble_eq_true rfl) (Nat.le_of_ble_eq_true rfl) (pc' := 28) rfl (fun r16 h18 z17 => ?_)
    obtain ⟨rfl, z20⟩ := z17; rw [z20]
    show am_S _ _ _ _ _ _ _ (28, [some (.ref 20), some (.ref 2), none, none, none, none], [.long q13], h0, 0, 0) _
    refine am_steps ok_De_judgeUnpledge 1 (x' := (29, [some (.ref 20), some (.ref 2), none, none, none, none], [.ref 2, .long q13], h0, 0, 0)) rfl (Nat.le_of_ble_eq_true rfl) (Nat.le_of_ble_eq_true rfl) ?_
    refine hr_get ok_De_judgeUnpledge rfl hR (kd := 8) (hs_k hR (a := 2) rfl) rfl (Nat.le_of_ble_eq_true rfl) (Nat.le_of_ble_eq_true rfl) (v := .ref 6) (congrArg va_rf (hR.2.2.2.2.1 (811, 2, 6) (by decide))) (pc' := 32) rfl (Nat.le_of_ble_eq_true rfl) (Nat.le_of_ble_eq_true rfl) ?_
    refine am_steps ok_De_judgeUnpledge 1 (x' := (33, [some (.ref 20), some (.ref 2), none, none, none, none], [.int 0, .ref 6, .long q13], h0, 0, 0)) rfl (Nat.le_of_ble_eq_true rfl) (Nat.le_of_ble_eq_true rfl) ?_
    obtain ⟨j21, hx22, hd23⟩ := Option.bind_eq_some_iff.mp hd; clear hd; have hd := hd23; clear hd23
    refine hr_lald ok_De_judgeUnpledge rfl hR (hs_k hR (a := 6) rfl) (hs_ln hR rfl) hx22 (pc' := 34) rfl (Nat.le_of_ble_eq_true rfl) (Nat.le_of_ble_eq_true rfl) ?_
    refine am_steps ok_De_judgeUnpledge 6 (x' := (if (0 : Int32) ≤ (lg_cmp (q13 - (S.2.2.2.2.2.1 6 j21)) 0) then 45 else 42, [some (.ref 20), some (.ref 2), some (.long (q13 - (S.2.2.2.2.2.1 6 j21))), none, none, none], [], h0, 0, 0)) rfl (Nat.le_of_ble_eq_true rfl) (Nat.le_of_ble_eq_true rfl) ?_
    refine am_if (fun hc24 => ?_) (fun hc24 => ?_)
    · rw [if_pos hc24] at hd
      refine am_steps ok_De_judgeUnpledge 1 (x' := (46, [some (.ref 20), some (.ref 2), some (.long (q13 - (S.2.2.2.2.2.1 6 j21))), none, none, none], [.ref 20], h0, 0, 0)) rfl (Nat.le_of_ble_eq_true rfl) (Nat.le_of_ble_eq_true rfl) ?_
      refine hr_get ok_De_judgeUnpledge rfl hR (kd := 5) (hs_k hR (a := 20) rfl) rfl (Nat.le_of_ble_eq_true rfl) (Nat.le_of_ble_eq_true rfl) (v := .ref 10) (congrArg va_rf (hR.2.2.2.2.1 (500, 20, 10) (by decide))) (pc' := 49) rfl (Nat.le_of_ble_eq_true rfl) (Nat.le_of_ble_eq_true rfl) ?_
      refine am_steps ok_De_judgeUnpledge 1 (x' := (50, [some (.ref 20), some (.ref 2), some (.long (q13 - (S.2.2.2.2.2.1 6 j21))), none, none, none], [.ref 2, .ref 10], h0, 0, 0)) rfl (Nat.le_of_ble_eq_true rfl) (Nat.le_of_ble_eq_true rfl) ?_
      refine hr_get ok_De_judgeUnpledge rfl hR (kd := 8) (hs_k hR (a := 2) rfl) rfl (Nat.le_of_ble_eq_true rfl) (Nat.le_of_ble_eq_true rfl) (v := .int (S.2.1 813 2)) rfl (pc' := 53) rfl (Nat.le_of_ble_eq_true rfl) (Nat.le_of_ble_eq_true rfl) ?_
      refine am_steps ok_De_judgeUnpledge 1 (x' := (54, [some (.ref 20), some (.ref 2), some (.long (q13 - (S.2.2.2.2.2.1 6 j21))), none, none, none], [.ref 2, .int (S.2.1 813 2), .ref 10], h0, 0, 0)) rfl (Nat.le_of_ble_eq_true rfl) (Nat.le_of_ble_eq_true rfl) ?_
      refine hr_get ok_De_judgeUnpledge rfl hR (kd := 8) (hs_k hR (a := 2) rfl) rfl (Nat.le_of_ble_eq_true rfl) (Nat.le_of_ble_eq_true rfl) (v := .ref 5) (congrArg va_rf (hR.2.2.2.2.1 (809, 2, 5) (by decide))) (pc' := 57) rfl (Nat.le_of_ble_eq_true rfl) (Nat.le_of_ble_eq_true rfl) ?_
      refine am_steps ok_De_judgeUnpledge 1 (x' := (58, [some (.ref 20), some (.ref 2), some (.long (q13 - (S.2.2.2.2.2.1 6 j21))), none, none, none], [.int 0, .ref 5, .int (S.2.1 813 2), .ref 10], h0, 0, 0)) rfl (Nat.le_of_ble_eq_true rfl) (Nat.le_of_ble_eq_true rfl) ?_
      refine hr_iald ok_De_judgeUnpledge rfl hR (hs_k hR (a := 5) rfl) (hs_ln hR rfl) hx11 (pc' := 59) rfl (Nat.le_of_ble_eq_true rfl) (Nat.le_of_ble_eq_true rfl) ?_
      refine am_steps ok_De_judgeUnpledge 1 (x' := (60, [some (.ref 20), some (.ref 2), some (.long (q13 - (S.2.2.2.2.2.1 6 j21))), none, none, none], [.long (q13 - (S.2.2.2.2.2.1 6 j21)), .int (S.2.2.2.2.1 5 j10), .int (S.2.1 813 2), .ref 10], h0, 0, 0)) rfl (Nat.le_of_ble_eq_true rfl) (Nat.le_of_ble_eq_true rfl) ?_
      obtain ⟨q25, hq26, hd27⟩ := Option.bind_eq_some_iff.mp hd; clear hd; have hd := hd27; clear hd27
      refine ar_cv ok_De_judgeUnpledge hk_Bo_creditIfPledged rfl rfl (As := [.int (S.2.1 813 2), .int (S.2.2.2.2.1 5 j10), .long (q13 - (S.2.2.2.2.2.1 6 j21))]) (ad := 10) (rest := []) rfl rfl (hR.ob (hs_k hR (a := 10) rfl) (Nat.le_of_ble_eq_true rfl)) (Nat.le_of_ble_eq_true rfl) (c_Bo_creditIfPledged (S.2.1 813 2) (S.2.2.2.2.1 5 j10) (q13 - (S.2.2.2.2.2.1 6 j21)) S h0 hR  q25 hq26) (Nat.le_of_ble_eq_true rfl) (Nat.le_of_ble_eq_true rfl) (Nat.le_of_ble_eq_true rfl) (Nat.le_of_ble_eq_true rfl) (pc' := 63) rfl (fun r28 h30 z29 => ?_)
      obtain ⟨rfl, z32⟩ := z29; rw [z32]
      show am_S _ _ _ _ _ _ _ (63, [some (.ref 20), some (.ref 2), some (.long (q13 - (S.2.2.2.2.2.1 6 j21))), none, none, none], [.long q25], h0, 0, 0) _
      refine am_steps ok_De_judgeUnpledge 2 (x' := (66, [some (.ref 20), some (.ref 2), some (.long (q13 - (S.2.2.2.2.2.1 6 j21))), none, some (.long q25), none], [.ref 20], h0, 0, 0)) rfl (Nat.le_of_ble_eq_true rfl) (Nat.le_of_ble_eq_true rfl) ?_
      refine hr_get ok_De_judgeUnpledge rfl hR (kd := 5) (hs_k hR (a := 20) rfl) rfl (Nat.le_of_ble_eq_true rfl) (Nat.le_of_ble_eq_true rfl) (v := .ref 10) (congrArg va_rf (hR.2.2.2.2.1 (500, 20, 10) (by decide))) (pc' := 69) rfl (Nat.le_of_ble_eq_true rfl) (Nat.le_of_ble_eq_true rfl) ?_
      refine am_steps ok_De_judgeUnpledge 1 (x' := (70, [some (.ref 20), some (.ref 2), some (.long (q13 - (S.2.2.2.2.2.1 6 j21))), none, some (.long q25), none], [.ref 2, .ref 10], h0, 0, 0)) rfl (Nat.le_of_ble_eq_true rfl) (Nat.le_of_ble_eq_true rfl) ?_
      refine hr_get ok_De_judgeUnpledge rfl hR (kd := 8) (hs_k hR (a := 2) rfl) rfl (Nat.le_of_ble_eq_true rfl) (Nat.le_of_ble_eq_true rfl) (v := .int (S.2.1 813 2)) rfl (pc' := 73) rfl (Nat.le_of_ble_eq_true rfl) (Nat.le_of_ble_eq_true rfl) ?_
      refine am_steps ok_De_judgeUnpledge 1 (x' := (75, [some (.ref 20), some (.ref 2), some (.long (q13 - (S.2.2.2.2.2.1 6 j21))), none, some (.long q25), none], [.long q25, .int (S.2.1 813 2), .ref 10], h0, 0, 0)) rfl (Nat.le_of_ble_eq_true rfl) (Nat.le_of_ble_eq_true rfl) ?_
      obtain ⟨q33, hq34, hd35⟩ := Option.bind_eq_some_iff.mp hd; clear hd; have hd := hd35; clear hd35
      refine ar_cv ok_De_judgeUnpledge hk_Bo_canHaveCredit rfl rfl (As := [.int (S.2.1 813 2), .long q25]) (ad := 10) (rest := []) rfl rfl (hR.ob (hs_k hR (a := 10) rfl) (Nat.le_of_ble_eq_true rfl)) (Nat.le_of_ble_eq_true rfl) (c_Bo_canHaveCredit (S.2.1 813 2) q25 S h0 hR  q33 hq34) (Nat.le_of_ble_eq_true rfl) (Nat.le_of_ble_eq_true rfl) (Nat.le_of_ble_eq_true rfl) (Nat.le_of_ble_eq_true rfl) (pc' := 78) rfl (fun r36 h38 z37 => ?_)
      obtain ⟨rfl, z40⟩ := z37; rw [z40]
      show am_S _ _ _ _ _ _ _ (78, [some (.ref 20), some (.ref 2), some (.long (q13 - (S.2.2.2.2.2.1 6 j21))), none, some (.long q25), none], [.int q33], h0, 0, 0) _
      refine am_steps ok_De_judgeUnpledge 1 (x' := (if (q33 : Int32) = 0 then 85 else 81, [some (.ref 20), some (.ref 2), some (.long (q13 - (S.2.2.2.2.2.1 6 j21))), none, some (.long q25), none], [], h0, 0, 0)) rfl (Nat.le_of_ble_eq_true rfl) (Nat.le_of_ble_eq_true rfl) ?_
      refine am_if (fun hc41 => ?_) (fun hc41 => ?_)
      · rw [if_pos hc41] at hd
        refine am_steps ok_De_judgeUnpledge 1 (x' := (87, [some (.ref 20), some (.ref 2), some (.long (q13 - (S.2.2.2.2.2.1 6 j21))), none, some (.long q25), none], [.int 9], h0, 0, 0)) rfl (Nat.le_of_ble_eq_true rfl) (Nat.le_of_ble_eq_true rfl) ?_
        cases hd; exact am_ret ok_De_judgeUnpledge rfl (Nat.le_of_ble_eq_true rfl) (Nat.le_of_ble_eq_true rfl) ⟨rfl, rfl⟩
      · rw [if_neg hc41] at hd
        refine am_steps ok_De_judgeUnpledge 2 (x' := (87, [some (.ref 20), some (.ref 2), some (.long (q13 - (S.2.2.2.2.2.1 6 j21))), none, some (.long q25), none], [.int 0], h0, 0, 0)) rfl (Nat.le_of_ble_eq_true rfl) (Nat.le_of_ble_eq_true rfl) ?_
        cases hd; exact am_ret ok_De_judgeUnpledge rfl (Nat.le_of_ble_eq_true rfl) (Nat.le_of_ble_eq_true rfl) ⟨rfl, rfl⟩
    · rw [if_neg hc24] at hd
      refine am_steps ok_De_judgeUnpledge 1 (x' := (44, [some (.ref 20), some (.ref 2), some (.long (q13 - (S.2.2.2.2.2.1 6 j21))), none, none, none], [.int 8], h0, 0, 0)) rfl (Nat.le_of_ble_eq_true rfl) (Nat.le_of_ble_eq_true rfl) ?_
      cases hd; exact am_ret ok_De_judgeUnpledge rfl (Nat.le_of_ble_eq_true rfl) (Nat.le_of_ble_eq_true rfl) ⟨rfl, rfl⟩
  · rw [if_neg hc9] at hd
    refine am_steps ok_De_judgeUnpledge 1 (x' := (10, [some (.ref 20), some (.ref 2), none, none, none, none], [.int 8], h0, 0, 0)) rfl (Nat.le_of_ble_eq_true rfl) (Nat.le_of_ble_eq_true rfl) ?_
    cases hd; exact am_ret ok_De_judgeUnpledge rfl (Nat.le_of_ble_eq_true rfl) (Nat.le_of_ble_eq_true rfl) ⟨rfl, rfl⟩
def h_De_judgeMatter  (S : hS) : Option (Int32 × hS) := if (S.2.1 804 2) = 0 then ((h_De_judgeNew  S).bind fun q3 => (some (q3, S))) else (if (S.2.1 804 2) = 1 then ((h_De_judgeAsset  S).bind fun q14 => (some (q14, S))) else (if (S.2.1 804 2) = 2 then ((h_De_judgePrice  S).bind fun q25 => (some (q25, S))) else (if (S.2.1 804 2) = 3 then ((h_De_judgeIssue  S).bind fun q36 => (some (q36, S))) else (if (S.2.1 804 2) = 4 then ((h_De_judgeRedemption  S).bind fun q47 => (some (q47.1, q47.2))) else (if (S.2.1 804 2) = 5 then ((h_De_judgePay  S).bind fun q61 => (some (q61, S))) else (if (S.2.1 804 2) = 6 then ((h_De_judgeConfirmation  S).bind fun q72 => (some (q72, S))) else (if (S.2.1 804 2) = 7 ∨ (S.2.1 804 2) = 8 then ((h_Qu_find (S.2.1 813 2) (S.2.2.1 818 2) S).bind fun q83 => (if q83 = none then (some (11, S)) else (some (0, S)))) else (if (S.2.1 804 2) = 9 then ((h_De_judgeLimit  S).bind fun q95 => (some (q95, S))) else (if (S.2.1 804 2) = 10 then ((h_De_judgeUnlimit  S).bind fun q106 => (some (q106, S))) else (if (S.2.1 804 2) = 11 then ((h_De_judgePledge  S).bind fun q117 => (some (q117, S))) else (if (S.2.1 804 2) = 12 then ((h_De_judgeUnpledge  S).bind fun q128 => (some (q128, S))) else (some (0, S)))))))))))))
set_option maxHeartbeats 4000000 in
set_option maxRecDepth 100000 in
theorem c_De_judgeMatter  (S : hS) (h0 : am_H) (hR : RH S h0)  (q : Int32 × hS) (hd : h_De_judgeMatter  S = some q) : am_Me am_Pr none 5 116 1 10 139 [.ref 20, .ref 2] h0 (hQr (.int q.1) q.2 S.1 h0) := by
  refine am_enter (d := hd_De_judgeMatter) rfl (by decide +kernel) (Nat.le_of_ble_eq_true rfl) ?_
  show am_S _ _ _ _ _ _ _ (0, [some (.ref 20), some (.ref 2)], [], h0, 0, 0) _
  unfold h_De_judgeMatter at hd
  refine am_steps ok_De_judgeMatter 1 (x' := (1, [some (.ref 20), some (.ref 2)], [.ref 2], h0, 0, 0)) rfl (Nat.le_of_ble_eq_true rfl) (Nat.le_of_ble_eq_true rfl) ?_
  refine hr_get ok_De_judgeMatter rfl hR (kd := 8) (hs_k hR (a := 2) rfl) rfl (Nat.le_of_ble_eq_true rfl) (Nat.le_of_ble_eq_true rfl) (v := .int (S.2.1 804 2)) rfl (pc' := 4) rfl (Nat.le_of_ble_eq_true rfl) (Nat.le_of_ble_eq_true rfl) ?_
  by_cases hc1 : (S.2.1 804 2) = 0
  · rw [if_pos hc1] at hd
    have KT2 : am_S am_Pr none 5 116 1 10 139 (72, [some (.ref 20), some (.ref 2)], [], h0, 0, 0) (hQr (.int q.1) q.2 S.1 h0) := by
      refine am_steps ok_De_judgeMatter 2 (x' := (74, [some (.ref 20), some (.ref 2)], [.ref 2, .ref 20], h0, 0, 0)) rfl (Nat.le_of_ble_eq_true rfl) (Nat.le_of_ble_eq_true rfl) ?_
      obtain ⟨q3, hq4, hd5⟩ := Option.bind_eq_some_iff.mp hd; clear hd; have hd := hd5; clear hd5
      refine ar_cv ok_De_judgeMatter hk_De_judgeNew rfl rfl (As := [.ref 2]) (ad := 20) (rest := []) rfl rfl (hR.ob (hs_k hR (a := 20) rfl) (Nat.le_of_ble_eq_true rfl)) (Nat.le_of_ble_eq_true rfl) (c_De_judgeNew  S h0 hR  q3 hq4) (Nat.le_of_ble_eq_true rfl) (Nat.le_of_ble_eq_true rfl) (Nat.le_of_ble_eq_true rfl) (Nat.le_of_ble_eq_true rfl) (pc' := 77) rfl (fun r6 h8 z7 => ?_)
      obtain ⟨rfl, z10⟩ := z7; rw [z10]
      show am_S _ _ _ _ _ _ _ (77, [some (.ref 20), some (.ref 2)], [.int q3], h0, 0, 0) _
      cases hd; exact am_ret ok_De_judgeMatter rfl (Nat.le_of_ble_eq_true rfl) (Nat.le_of_ble_eq_true rfl) ⟨rfl, hR, hF.rf, hE.rf⟩
    exact ar_tswk ok_De_judgeMatter rfl hc1 (by decide +kernel) rfl rfl (Nat.le_of_ble_eq_true rfl) (Nat.le_of_ble_eq_true rfl) KT2
  rw [if_neg hc1] at hd
  by_cases hc12 : (S.2.1 804 2) = 1
  · rw [if_pos hc12] at hd
    have KT13 : am_S am_Pr none 5 116 1 10 139 (78, [some (.ref 20), some (.ref 2)], [], h0, 0, 0) (hQr (.int q.1) q.2 S.1 h0) := by
      refine am_steps ok_De_judgeMatter 2 (x' := (80, [some (.ref 20), some (.ref 2)], [.ref 2, .ref 20], h0, 0, 0)) rfl (Nat.le_of_ble_eq_true rfl) (Nat.le_of_ble_eq_true rfl) ?_
      obtain ⟨q14, hq15, hd16⟩ := Option.bind_eq_some_iff.mp hd; clear hd; have hd := hd16; clear hd16
      refine ar_cv ok_De_judgeMatter hk_De_judgeAsset rfl rfl (As := [.ref 2]) (ad := 20) (rest := []) rfl rfl (hR.ob (hs_k hR (a := 20) rfl) (Nat.le_of_ble_eq_true rfl)) (Nat.le_of_ble_eq_true rfl) (c_De_judgeAsset  S h0 hR  q14 hq15) (Nat.le_of_ble_eq_true rfl) (Nat.le_of_ble_eq_true rfl) (Nat.le_of_ble_eq_true rfl) (Nat.le_of_ble_eq_true rfl) (pc' := 83) rfl (fun r17 h19 z18 => ?_)
      obtain ⟨rfl, z21⟩ := z18; rw [z21]
      show am_S _ _ _ _ _ _ _ (83, [some (.ref 20), some (.ref 2)], [.int q14], h0, 0, 0) _
      cases hd; exact am_ret ok_De_judgeMatter rfl (Nat.le_of_ble_eq_true rfl) (Nat.le_of_ble_eq_true rfl) ⟨rfl, hR, hF.rf, hE.rf⟩
    exact ar_tswk ok_De_judgeMatter rfl hc12 (by decide +kernel) rfl rfl (Nat.le_of_ble_eq_true rfl) (Nat.le_of_ble_eq_true rfl) KT13
  rw [if_neg hc12] at hd
  by_cases hc23 : (S.2.1 804 2) = 2
  · rw [if_pos hc23] at hd
    have KT24 : am_S am_Pr none 5 116 1 10 139 (84, [some (.ref 20), some (.ref 2)], [], h0, 0, 0) (hQr (.int q.1) q.2 S.1 h0) := by
      refine am_steps ok_De_judgeMatter 2 (x' := (86, [some (.ref 20), some (.ref 2)], [.ref 2, .ref 20], h0, 0, 0)) rfl (Nat.le_of_ble_eq_true rfl) (Nat.le_of_ble_eq_true rfl) ?_
      obtain ⟨q25, hq26, hd27⟩ := Option.bind_eq_some_iff.mp hd; clear hd; have hd := hd27; clear hd27
      refine ar_cv ok_De_judgeMatter hk_De_judgePrice rfl rfl (As := [.ref 2]) (ad := 20) (rest := []) rfl rfl (hR.ob (hs_k hR (a := 20) rfl) (Nat.le_of_ble_eq_true rfl)) (Nat.le_of_ble_eq_true rfl) (c_De_judgePrice  S h0 hR  q25 hq26) (Nat.le_of_ble_eq_true rfl) (Nat.le_of_ble_eq_true rfl) (Nat.le_of_ble_eq_true rfl) (Nat.le_of_ble_eq_true rfl) (pc' := 89) rfl (fun r28 h30 z29 => ?_)
      obtain ⟨rfl, z32⟩ := z29; rw [z32]
      show am_S _ _ _ _ _ _ _ (89, [some (.ref 20), some (.ref 2)], [.int q25], h0, 0, 0) _
      cases hd; exact am_ret ok_De_judgeMatter rfl (Nat.le_of_ble_eq_true rfl) (Nat.le_of_ble_eq_true rfl) ⟨rfl, hR, hF.rf, hE.rf⟩
    exact ar_tswk ok_De_judgeMatter rfl hc23 (by decide +kernel) rfl rfl (Nat.le_of_ble_eq_true rfl) (Nat.le_of_ble_eq_true rfl) KT24
  rw [if_neg hc23] at hd
  by_cases hc34 : (S.2.1 804 2) = 3
  · rw [if_pos hc34] at hd
    have KT35 : am_S am_Pr none 5 116 1 10 139 (90, [some (.ref 20), some (.ref 2)], [], h0, 0, 0) (hQr (.int q.1) q.2 S.1 h0) := by
      refine am_steps ok_De_judgeMatter 2 (x' := (92, [some (.ref 20), some (.ref 2)], [.ref 2, .ref 20], h0, 0, 0)) rfl (Nat.le_of_ble_eq_true rfl) (Nat.le_of_ble_eq_true rfl) ?_
      obtain ⟨q36, hq37, hd38⟩ := Option.bind_eq_some_iff.mp hd; clear hd; have hd := hd38; clear hd38
      refine ar_cv ok_De_judgeMatter hk_De_judgeIssue rfl rfl (As := [.ref 2]) (ad := 20) (rest := []) rfl rfl (hR.ob (hs_k hR (a := 20) rfl) (Nat.le_of_ble_eq_true rfl)) (Nat.le_of_ble_eq_true rfl) (c_De_judgeIssue  S h0 hR  q36 hq37) (Nat.le_of_ble_eq_true rfl) (Nat.le_of_ble_eq_true rfl) (Nat.le_of_ble_eq_true rfl) (Nat.le_of_ble_eq_true rfl) (pc' := 95) rfl (fun r39 h41 z40 => ?_)
      obtain ⟨rfl, z43⟩ := z40; rw [z43]
      show am_S _ _ _ _ _ _ _ (95, [some (.ref 20), some (.ref 2)], [.int q36], h0, 0, 0) _
      cases hd; exact am_ret ok_De_judgeMatter rfl (Nat.le_of_ble_eq_true rfl) (Nat.le_of_ble_eq_true rfl) ⟨rfl, hR, hF.rf, hE.rf⟩
    exact ar_tswk ok_De_judgeMatter rfl hc34 (by decide +kernel) rfl rfl (Nat.le_of_ble_eq_true rfl) (Nat.le_of_ble_eq_true rfl) KT35
  rw [if_neg hc34] at hd
  by_cases hc45 : (S.2.1 804 2) = 4
  · rw [if_pos hc45] at hd
    have KT46 : am_S am_Pr none 5 116 1 10 139 (96, [some (.ref 20), some (.ref 2)], [], h0, 0, 0) (hQr (.int q.1) q.2 S.1 h0) := by
      refine am_steps ok_De_judgeMatter 2 (x' := (98, [some (.ref 20), some (.ref 2)], [.ref 2, .ref 20], h0, 0, 0)) rfl (Nat.le_of_ble_eq_true rfl) (Nat.le_of_ble_eq_true rfl) ?_
      obtain ⟨q47, hq48, hd49⟩ := Option.bind_eq_some_iff.mp hd; clear hd; have hd := hd49; clear hd49
      refine ar_cv ok_De_judgeMatter hk_De_judgeRedemption rfl rfl (As := [.ref 2]) (ad := 20) (rest := []) rfl rfl (hR.ob (hs_k hR (a := 20) rfl) (Nat.le_of_ble_eq_true rfl)) (Nat.le_of_ble_eq_true rfl) (c_De_judgeRedemption  S h0 hR  q47 hq48) (Nat.le_of_ble_eq_true rfl) (Nat.le_of_ble_eq_true rfl) (Nat.le_of_ble_eq_true rfl) (Nat.le_of_ble_eq_true rfl) (pc' := 101) rfl (fun r50 h52 z51 => ?_)
      obtain ⟨rfl, hR54, g55, e56⟩ := z51
      have f57 := hF.tr hF.rf g55
      show am_S _ _ _ _ _ _ _ (101, [some (.ref 20), some (.ref 2)], [.int q47.1], h52, 1, 10) _
      cases hd; exact am_ret ok_De_judgeMatter rfl (Nat.le_of_ble_eq_true rfl) (Nat.le_of_ble_eq_true rfl) ⟨rfl, hR54, f57, (hE.rf.tr e56)⟩
    exact ar_tswk ok_De_judgeMatter rfl hc45 (by decide +kernel) rfl rfl (Nat.le_of_ble_eq_true rfl) (Nat.le_of_ble_eq_true rfl) KT46
  rw [if_neg hc45] at hd
  by_cases hc59 : (S.2.1 804 2) = 5
  · rw [if_pos hc59] at hd
    have KT60 : am_S am_Pr none 5 116 1 10 139 (102, [some (.ref 20), some (.ref 2)], [], h0, 0, 0) (hQr (.int q.1) q.2 S.1 h0) := by
      refine am_steps ok_De_judgeMatter 2 (x' := (104, [some (.ref 20), some (.ref 2)], [.ref 2, .ref 20], h0, 0, 0)) rfl (Nat.le_of_ble_eq_true rfl) (Nat.le_of_ble_eq_true rfl) ?_
      obtain ⟨q61, hq62, hd63⟩ := Option.bind_eq_some_iff.mp hd; clear hd; have hd := hd63; clear hd63
      refine ar_cv ok_De_judgeMatter hk_De_judgePay rfl rfl (As := [.ref 2]) (ad := 20) (rest := []) rfl rfl (hR.ob (hs_k hR (a := 20) rfl) (Nat.le_of_ble_eq_true rfl)) (Nat.le_of_ble_eq_true rfl) (c_De_judgePay  S h0 hR  q61 hq62) (Nat.le_of_ble_eq_true rfl) (Nat.le_of_ble_eq_true rfl) (Nat.le_of_ble_eq_true rfl) (Nat.le_of_ble_eq_true rfl) (pc' := 107) rfl (fun r64 h66 z65 => ?_)
      obtain ⟨rfl, z68⟩ := z65; rw [z68]
      show am_S _ _ _ _ _ _ _ (107, [some (.ref 20), some (.ref 2)], [.int q61], h0, 0, 0) _
      cases hd; exact am_ret ok_De_judgeMatter rfl (Nat.le_of_ble_eq_true rfl) (Nat.le_of_ble_eq_true rfl) ⟨rfl, hR, hF.rf, hE.rf⟩
    exact ar_tswk ok_De_judgeMatter rfl hc59 (by decide +kernel) rfl rfl (Nat.le_of_ble_eq_true rfl) (Nat.le_of_ble_eq_true rfl) KT60
  rw [if_neg hc59] at hd
  by_cases hc70 : (S.2.1 804 2) = 6
  · rw [if_pos hc70] at hd
    have KT71 : am_S am_Pr none 5 116 1 10 139 (108, [some (.ref 20), some (.ref 2)], [], h0, 0, 0) (hQr (.int q.1) q.2 S.1 h0) := by
      refine am_steps ok_De_judgeMatter 2 (x' := (110, [some (.ref 20), some (.ref 2)], [.ref 2, .ref 20], h0, 0, 0)) rfl (Nat.le_of_ble_eq_true rfl) (Nat.le_of_ble_eq_true rfl) ?_
      obtain ⟨q72, hq73, hd74⟩ := Option.bind_eq_some_iff.mp hd; clear hd; have hd := hd74; clear hd74
      refine ar_cv ok_De_judgeMatter hk_De_judgeConfirmation rfl rfl (As := [.ref 2]) (ad := 20) (rest := []) rfl rfl (hR.ob (hs_k hR (a := 20) rfl) (Nat.le_of_ble_eq_true rfl)) (Nat.le_of_ble_eq_true rfl) (c_De_judgeConfirmation  S h0 hR  q72 hq73) (Nat.le_of_ble_eq_true rfl) (Nat.le_of_ble_eq_true rfl) (Nat.le_of_ble_eq_true rfl) (Nat.le_of_ble_eq_true rfl) (pc' := 113) rfl (fun r75 h77 z76 => ?_)
      obtain ⟨rfl, z79⟩ := z76; rw [z79]
      show am_S _ _ _ _ _ _ _ (113, [some (.ref 20), some (.ref 2)], [.int q72], h0, 0, 0) _
      cases hd; exact am_ret ok_De_judgeMatter rfl (Nat.le_of_ble_eq_true rfl) (Nat.le_of_ble_eq_true rfl) ⟨rfl, hR, hF.rf, hE.rf⟩
    exact ar_tswk ok_De_judgeMatter rfl hc70 (by decide +kernel) rfl rfl (Nat.le_of_ble_eq_true rfl) (Nat.le_of_ble_eq_true rfl) KT71
  rw [if_neg hc70] at hd
  by_cases hc81 : (S.2.1 804 2) = 7 ∨ (S.2.1 804 2) = 8
  · rw [if_pos hc81] at hd
    have KT82 : am_S am_Pr none 5 116 1 10 139 (114, [some (.ref 20), some (.ref 2)], [], h0, 0, 0) (hQr (.int q.1) q.2 S.1 h0) := by
      refine am_steps ok_De_judgeMatter 1 (x' := (115, [some (.ref 20), some (.ref 2)], [.ref 20], h0, 0, 0)) rfl (Nat.le_of_ble_eq_true rfl) (Nat.le_of_ble_eq_true rfl) ?_
      refine hr_get ok_De_judgeMatter rfl hR (kd := 5) (hs_k hR (a := 20) rfl) rfl (Nat.le_of_ble_eq_true rfl) (Nat.le_of_ble_eq_true rfl) (v := .ref 16) (congrArg va_rf (hR.2.2.2.2.1 (501, 20, 16) (by decide))) (pc' := 118) rfl (Nat.le_of_ble_eq_true rfl) (Nat.le_of_ble_eq_true rfl) ?_
      refine am_steps ok_De_judgeMatter 1 (x' := (119, [some (.ref 20), some (.ref 2)], [.ref 2, .ref 16], h0, 0, 0)) rfl (Nat.le_of_ble_eq_true rfl) (Nat.le_of_ble_eq_true rfl) ?_
      refine hr_get ok_De_judgeMatter rfl hR (kd := 8) (hs_k hR (a := 2) rfl) rfl (Nat.le_of_ble_eq_true rfl) (Nat.le_of_ble_eq_true rfl) (v := .int (S.2.1 813 2)) rfl (pc' := 122) rfl (Nat.le_of_ble_eq_true rfl) (Nat.le_of_ble_eq_true rfl) ?_
      refine am_steps ok_De_judgeMatter 1 (x' := (123, [some (.ref 20), some (.ref 2)], [.ref 2, .int (S.2.1 813 2), .ref 16], h0, 0, 0)) rfl (Nat.le_of_ble_eq_true rfl) (Nat.le_of_ble_eq_true rfl) ?_
      refine hr_get ok_De_judgeMatter rfl hR (kd := 8) (hs_k hR (a := 2) rfl) rfl (Nat.le_of_ble_eq_true rfl) (Nat.le_of_ble_eq_true rfl) (v := .long (S.2.2.1 818 2)) rfl (pc' := 126) rfl (Nat.le_of_ble_eq_true rfl) (Nat.le_of_ble_eq_true rfl) ?_
      obtain ⟨q83, hq84, hd85⟩ := Option.bind_eq_some_iff.mp hd; clear hd; have hd := hd85; clear hd85
      refine ar_cv ok_De_judgeMatter hk_Qu_find rfl rfl (As := [.int (S.2.1 813 2), .long (S.2.2.1 818 2)]) (ad := 16) (rest := []) rfl rfl (hR.ob (hs_k hR (a := 16) rfl) (Nat.le_of_ble_eq_true rfl)) (Nat.le_of_ble_eq_true rfl) (c_Qu_find (S.2.1 813 2) (S.2.2.1 818 2) S h0 hR  q83 hq84) (Nat.le_of_ble_eq_true rfl) (Nat.le_of_ble_eq_true rfl) (Nat.le_of_ble_eq_true rfl) (Nat.le_of_ble_eq_true rfl) (pc' := 129) rfl (fun r86 h88 z87 => ?_)
      obtain ⟨rfl, z90, hk89⟩ := z87; rw [z90]
      show am_S _ _ _ _ _ _ _ (129, [some (.ref 20), some (.ref 2)], [va_rf q83], h0, 0, 0) _
      refine hr_ifnon ok_De_judgeMatter rfl (pc' := 132) rfl (Nat.le_of_ble_eq_true rfl) (Nat.le_of_ble_eq_true rfl) ?_
      refine am_if (fun hc91 => ?_) (fun hc91 => ?_)
      · rw [if_pos hc91] at hd
        refine am_steps ok_De_judgeMatter 2 (x' := (138, [some (.ref 20), some (.ref 2)], [.int 11], h0, 0, 0)) rfl (Nat.le_of_ble_eq_true rfl) (Nat.le_of_ble_eq_true rfl) ?_
        cases hd; exact am_ret ok_De_judgeMatter rfl (Nat.le_of_ble_eq_true rfl) (Nat.le_of_ble_eq_true rfl) ⟨rfl, hR, hF.rf, hE.rf⟩
      · rw [if_neg hc91] at hd
        refine am_steps ok_De_judgeMatter 1 (x' := (138, [some (.ref 20), some (.ref 2)], [.int 0], h0, 0, 0)) rfl (Nat.le_of_ble_eq_true rfl) (Nat.le_of_ble_eq_true rfl) ?_
        cases hd; exact am_ret ok_De_judgeMatter rfl (Nat.le_of_ble_eq_true rfl) (Nat.le_of_ble_eq_true rfl) ⟨rfl, hR, hF.rf, hE.rf⟩
    rcases hc81 with hv92 | hv92
    · exact ar_tswk ok_De_judgeMatter rfl hv92 (by decide +kernel) rfl rfl (Nat.le_of_ble_eq_true rfl) (Nat.le_of_ble_eq_true rfl) KT82
    · exact ar_tswk ok_De_judgeMatter rfl hv92 (by decide +kernel) rfl rfl (Nat.le_of_ble_eq_true rfl) (Nat.le_of_ble_eq_true rfl) KT82
  rw [if_neg hc81] at hd
  by_cases hc93 : (S.2.1 804 2) = 9
  · rw [if_pos hc93] at hd
    have KT94 : am_S am_Pr none 5 116 1 10 139 (139, [some (.ref 20), some (.ref 2)], [], h0, 0, 0) (hQr (.int q.1) q.2 S.1 h0) := by
      refine am_steps ok_De_judgeMatter 2 (x' := (141, [some (.ref 20), some (.ref 2)], [.ref 2, .ref 20], h0, 0, 0)) rfl (Nat.le_of_ble_eq_true rfl) (Nat.le_of_ble_eq_true rfl) ?_
      obtain ⟨q95, hq96, hd97⟩ := Option.bind_eq_some_iff.mp hd; clear hd; have hd := hd97; clear hd97
      refine ar_cv ok_De_judgeMatter hk_De_judgeLimit rfl rfl (As := [.ref 2]) (ad := 20) (rest := []) rfl rfl (hR.ob (hs_k hR (a := 20) rfl) (Nat.le_of_ble_eq_true rfl)) (Nat.le_of_ble_eq_true rfl) (c_De_judgeLimit  S h0 hR  q95 hq96) (Nat.le_of_ble_eq_true rfl) (Nat.le_of_ble_eq_true rfl) (Nat.le_of_ble_eq_true rfl) (Nat.le_of_ble_eq_true rfl) (pc' := 144) rfl (fun r98 h100 z99 => ?_)
      obtain ⟨rfl, z102⟩ := z99; rw [z102]
      show am_S _ _ _ _ _ _ _ (144, [some (.ref 20), some (.ref 2)], [.int q95], h0, 0, 0) _
      cases hd; exact am_ret ok_De_judgeMatter rfl (Nat.le_of_ble_eq_true rfl) (Nat.le_of_ble_eq_true rfl) ⟨rfl, hR, hF.rf, hE.rf⟩
    exact ar_tswk ok_De_judgeMatter rfl hc93 (by decide +kernel) rfl rfl (Nat.le_of_ble_eq_true rfl) (Nat.le_of_ble_eq_true rfl) KT94
  rw [if_neg hc93] at hd
  by_cases hc104 : (S.2.1 804 2) = 10
  · rw [if_pos hc104] at hd
    have KT105 : am_S am_Pr none 5 116 1 10 139 (145, [some (.ref 20), some (.ref 2)], [], h0, 0, 0) (hQr (.int q.1) q.2 S.1 h0) := by
      refine am_steps ok_De_judgeMatter 2 (x' := (147, [some (.ref 20), some (.ref 2)], [.ref 2, .ref 20], h0, 0, 0)) rfl (Nat.le_of_ble_eq_true rfl) (Nat.le_of_ble_eq_true rfl) ?_
      obtain ⟨q106, hq107, hd108⟩ := Option.bind_eq_some_iff.mp hd; clear hd; have hd := hd108; clear hd108
      refine ar_cv ok_De_judgeMatter hk_De_judgeUnlimit rfl rfl (As := [.ref 2]) (ad := 20) (rest := []) rfl rfl (hR.ob (hs_k hR (a := 20) rfl) (Nat.le_of_ble_eq_true rfl)) (Nat.le_of_ble_eq_true rfl) (c_De_judgeUnlimit  S h0 hR  q106 hq107) (Nat.le_of_ble_eq_true rfl) (Nat.le_of_ble_eq_true rfl) (Nat.le_of_ble_eq_true rfl) (Nat.le_of_ble_eq_true rfl) (pc' := 150) rfl (fun r109 h111 z110 => ?_)
      obtain ⟨rfl, z113⟩ := z110; rw [z113]
      show am_S _ _ _ _ _ _ _ (150, [some (.ref 20), some (.ref 2)], [.int q106], h0, 0, 0) _
      cases hd; exact am_ret ok_De_judgeMatter rfl (Nat.le_of_ble_eq_true rfl) (Nat.le_of_ble_eq_true rfl) ⟨rfl, hR, hF.rf, hE.rf⟩
    exact ar_tswk ok_De_judgeMatter rfl hc104 (by decide +kernel) rfl rfl (Nat.le_of_ble_eq_true rfl) (Nat.le_of_ble_eq_true rfl) KT105
  rw [if_neg hc104] at hd
  by_cases hc115 : (S.2.1 804 2) = 11
  · rw [if_pos hc115] at hd
    have KT116 : am_S am_Pr none 5 116 1 10 139 (151, [some (.ref 20), some (.ref 2)], [], h0, 0, 0) (hQr (.int q.1) q.2 S.1 h0) := by
      refine am_steps ok_De_judgeMatter 2 (x' := (153, [some (.ref 20), some (.ref 2)], [.ref 2, .ref 20], h0, 0, 0)) rfl (Nat.le_of_ble_eq_true rfl) (Nat.le_of_ble_eq_true rfl) ?_
      obtain ⟨q117, hq118, hd119⟩ := Option.bind_eq_some_iff.mp hd; clear hd; have hd := hd119; clear hd119
      refine ar_cv ok_De_judgeMatter hk_De_judgePledge rfl rfl (As := [.ref 2]) (ad := 20) (rest := []) rfl rfl (hR.ob (hs_k hR (a := 20) rfl) (Nat.le_of_ble_eq_true rfl)) (Nat.le_of_ble_eq_true rfl) (c_De_judgePledge  S h0 hR  q117 hq118) (Nat.le_of_ble_eq_true rfl) (Nat.le_of_ble_eq_true rfl) (Nat.le_of_ble_eq_true rfl) (Nat.le_of_ble_eq_true rfl) (pc' := 156) rfl (fun r120 h122 z121 => ?_)
      obtain ⟨rfl, z124⟩ := z121; rw [z124]
      show am_S _ _ _ _ _ _ _ (156, [some (.ref 20), some (.ref 2)], [.int q117], h0, 0, 0) _
      cases hd; exact am_ret ok_De_judgeMatter rfl (Nat.le_of_ble_eq_true rfl) (Nat.le_of_ble_eq_true rfl) ⟨rfl, hR, hF.rf, hE.rf⟩
    exact ar_tswk ok_De_judgeMatter rfl hc115 (by decide +kernel) rfl rfl (Nat.le_of_ble_eq_true rfl) (Nat.le_of_ble_eq_true rfl) KT116
  rw [if_neg hc115] at hd
  by_cases hc126 : (S.2.1 804 2) = 12
  · rw [if_pos hc126] at hd
    have KT127 : am_S am_Pr none 5 116 1 10 139 (157, [some (.ref 20), some (.ref 2)], [], h0, 0, 0) (hQr (.int q.1) q.2 S.1 h0) := by
      refine am_steps ok_De_judgeMatter 2 (x' := (159, [some (.ref 20), some (.ref 2)], [.ref 2, .ref 20], h0, 0, 0)) rfl (Nat.le_of_ble_eq_true rfl) (Nat.le_of_ble_eq_true rfl) ?_
      obtain ⟨q128, hq129, hd130⟩ := Option.bind_eq_some_iff.mp hd; clear hd; have hd := hd130; clear hd130
      refine ar_cv ok_De_judgeMatter hk_De_judgeUnpledge rfl rfl (As := [.ref 2]) (ad := 20) (rest := []) rfl rfl (hR.ob (hs_k hR (a := 20) rfl) (Nat.le_of_ble_eq_true rfl)) (Nat.le_of_ble_eq_true rfl) (c_De_judgeUnpledge  S h0 hR  q128 hq129) (Nat.le_of_ble_eq_true rfl) (Nat.le_of_ble_eq_true rfl) (Nat.le_of_ble_eq_true rfl) (Nat.le_of_ble_eq_true rfl) (pc' := 162) rfl (fun r131 h133 z132 => ?_)
      obtain ⟨rfl, z135⟩ := z132; rw [z135]
      show am_S _ _ _ _ _ _ _ (162, [some (.ref 20), some (.ref 2)], [.int q128], h0, 0, 0) _
      cases hd; exact am_ret ok_De_judgeMatter rfl (Nat.le_of_ble_eq_true rfl) (Nat.le_of_ble_eq_true rfl) ⟨rfl, hR, hF.rf, hE.rf⟩
    exact ar_tswk ok_De_judgeMatter rfl hc126 (by decide +kernel) rfl rfl (Nat.le_of_ble_eq_true rfl) (Nat.le_of_ble_eq_true rfl) KT127
  rw [if_neg hc126] at hd
  have KT137 : am_S am_Pr none 5 116 1 10 139 (163, [some (.ref 20), some (.ref 2)], [], h0, 0, 0) (hQr (.int q.1) q.2 S.1 h0) := by
    refine am_steps ok_De_judgeMatter 1 (x' := (164, [some (.ref 20), some (.ref 2)], [.int 0], h0, 0, 0)) rfl (Nat.le_of_ble_eq_true rfl) (Nat.le_of_ble_eq_true rfl) ?_
    cases hd; exact am_ret ok_De_judgeMatter rfl (Nat.le_of_ble_eq_true rfl) (Nat.le_of_ble_eq_true rfl) ⟨rfl, hR, hF.rf, hE.rf⟩
  have ho142 : (S.2.1 804 2).toInt < 0 ∨ 12 < (S.2.1 804 2).toInt := tsw_out (fun c139 h140 h141 e138 => by
    have c139x : c139 = 0 ∨ c139 = 1 ∨ c139 = 2 ∨ c139 = 3 ∨ c139 = 4 ∨ c139 = 5 ∨ c139 = 6 ∨ c139 = 7 ∨ c139 = 8 ∨ c139 = 9 ∨ c139 = 10 ∨ c139 = 11 ∨ c139 = 12 := by omega
    rcases c139x with rfl | rfl | rfl | rfl | rfl | rfl | rfl | rfl | rfl | rfl | rfl | rfl | rfl
    · exact hc1 e138
    · exact hc12 e138
    · exact hc23 e138
    · exact hc34 e138
    · exact hc45 e138
    · exact hc59 e138
    · exact hc70 e138
    · exact hc81 (Or.inl e138)
    · exact hc81 (Or.inr e138)
    · exact hc93 e138
    · exact hc104 e138
    · exact hc115 e138
    · exact hc126 e138)
  exact ar_tsw ok_De_judgeMatter rfl ho142 rfl (Nat.le_of_ble_eq_true rfl) (Nat.le_of_ble_eq_true rfl) KT137
