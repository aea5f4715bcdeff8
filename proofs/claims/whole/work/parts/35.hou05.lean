/-! Methods of the class as functions of its state. -/
def h_De_judgeRedemption  (S : hS) : Option (Int32 × hS) := (am_ix 1 12).bind fun j1 => (if ((S.2.2.2.2.1 5 j1) : Int32) = 0 then (some (8, S)) else ((am_ix 0 4).bind fun j5 => (if ¬ ((lg_cmp (S.2.2.2.2.2.1 6 j5) 0) : Int32) = 0 then ((am_ix 0 12).bind fun j9 => ((h_Bo_account (S.2.2.2.2.1 5 j1) (S.2.2.2.2.1 5 j9) S).bind fun q12 => ((h_Po_canMoveBy q12.1 (-(q12.2.2.2.2.2.2.1 6 j5)) q12.2).bind fun q23 => (if (q23 : Int32) = 0 then (some (9, q12.2)) else (some (0, q12.2)))))) else (some (8, S)))))
set_option maxHeartbeats 4000000 in
set_option maxRecDepth 100000 in
theorem c_De_judgeRedemption  (S : hS) (h0 : am_H) (hR : RH S h0)  (q : Int32 × hS) (hd : h_De_judgeRedemption  S = some q) : am_Me am_Pr none 3 75 1 10 144 [.ref 20, .ref 2] h0 (hQr (.int q.1) q.2 S.1 h0) := by
  refine am_enter (d := hd_De_judgeRedemption) rfl (by decide +kernel) (Nat.le_of_ble_eq_true rfl) ?_
  show am_S _ _ _ _ _ _ _ (0, [some (.ref 20), some (.ref 2)], [], h0, 0, 0) _
  unfold h_De_judgeRedemption at hd
  refine am_steps ok_De_judgeRedemption 1 (x' := (1, [some (.ref 20), some (.ref 2)], [.ref 2], h0, 0, 0)) rfl (Nat.le_of_ble_eq_true rfl) (Nat.le_of_ble_eq_true rfl) ?_
  refine hr_get ok_De_judgeRedemption rfl hR (kd := 8) (hs_k hR (a := 2) rfl) rfl (Nat.le_of_ble_eq_true rfl) (Nat.le_of_ble_eq_true rfl) (v := .ref 5) (congrArg va_rf (hR.2.2.2.2.1 (809, 2, 5) (by decide))) (pc' := 4) rfl (Nat.le_of_ble_eq_true rfl) (Nat.le_of_ble_eq_true rfl) ?_
  refine am_steps ok_De_judgeRedemption 1 (x' := (5, [some (.ref 20), some (.ref 2)], [.int 1, .ref 5], h0, 0, 0)) rfl (Nat.le_of_ble_eq_true rfl) (Nat.le_of_ble_eq_true rfl) ?_
  obtain ⟨j1, hx2, hd3⟩ := Option.bind_eq_some_iff.mp hd; clear hd; have hd := hd3; clear hd3
  refine hr_iald ok_De_judgeRedemption rfl hR (hs_k hR (a := 5) rfl) (hs_ln hR rfl) hx2 (pc' := 6) rfl (Nat.le_of_ble_eq_true rfl) (Nat.le_of_ble_eq_true rfl) ?_
  refine am_steps ok_De_judgeRedemption 1 (x' := (if ((S.2.2.2.2.1 5 j1) : Int32) = 0 then 20 else 9, [some (.ref 20), some (.ref 2)], [], h0, 0, 0)) rfl (Nat.le_of_ble_eq_true rfl) (Nat.le_of_ble_eq_true rfl) ?_
  refine am_if (fun hc4 => ?_) (fun hc4 => ?_)
  · rw [if_pos hc4] at hd
    refine am_steps ok_De_judgeRedemption 1 (x' := (22, [some (.ref 20), some (.ref 2)], [.int 8], h0, 0, 0)) rfl (Nat.le_of_ble_eq_true rfl) (Nat.le_of_ble_eq_true rfl) ?_
    cases hd; exact am_ret ok_De_judgeRedemption rfl (Nat.le_of_ble_eq_true rfl) (Nat.le_of_ble_eq_true rfl) ⟨rfl, hR, hF.rf, hE.rf⟩
  · rw [if_neg hc4] at hd
    refine am_steps ok_De_judgeRedemption 1 (x' := (10, [some (.ref 20), some (.ref 2)], [.ref 2], h0, 0, 0)) rfl (Nat.le_of_ble_eq_true rfl) (Nat.le_of_ble_eq_true rfl) ?_
    refine hr_get ok_De_judgeRedemption rfl hR (kd := 8) (hs_k hR (a := 2) rfl) rfl (Nat.le_of_ble_eq_true rfl) (Nat.le_of_ble_eq_true rfl) (v := .ref 6) (congrArg va_rf (hR.2.2.2.2.1 (811, 2, 6) (by decide))) (pc' := 13) rfl (Nat.le_of_ble_eq_true rfl) (Nat.le_of_ble_eq_true rfl) ?_
    refine am_steps ok_De_judgeRedemption 1 (x' := (14, [some (.ref 20), some (.ref 2)], [.int 0, .ref 6], h0, 0, 0)) rfl (Nat.le_of_ble_eq_true rfl) (Nat.le_of_ble_eq_true rfl) ?_
    obtain ⟨j5, hx6, hd7⟩ := Option.bind_eq_some_iff.mp hd; clear hd; have hd := hd7; clear hd7
    refine hr_lald ok_De_judgeRedemption rfl hR (hs_k hR (a := 6) rfl) (hs_ln hR rfl) hx6 (pc' := 15) rfl (Nat.le_of_ble_eq_true rfl) (Nat.le_of_ble_eq_true rfl) ?_
    refine am_steps ok_De_judgeRedemption 3 (x' := (if ¬ ((lg_cmp (S.2.2.2.2.2.1 6 j5) 0) : Int32) = 0 then 23 else 20, [some (.ref 20), some (.ref 2)], [], h0, 0, 0)) rfl (Nat.le_of_ble_eq_true rfl) (Nat.le_of_ble_eq_true rfl) ?_
    refine am_if (fun hc8 => ?_) (fun hc8 => ?_)
    · rw [if_pos hc8] at hd
      refine am_steps ok_De_judgeRedemption 1 (x' := (24, [some (.ref 20), some (.ref 2)], [.ref 20], h0, 0, 0)) rfl (Nat.le_of_ble_eq_true rfl) (Nat.le_of_ble_eq_true rfl) ?_
      refine hr_get ok_De_judgeRedemption rfl hR (kd := 5) (hs_k hR (a := 20) rfl) rfl (Nat.le_of_ble_eq_true rfl) (Nat.le_of_ble_eq_true rfl) (v := .ref 10) (congrArg va_rf (hR.2.2.2.2.1 (500, 20, 10) (by decide))) (pc' := 27) rfl (Nat.le_of_ble_eq_true rfl) (Nat.le_of_ble_eq_true rfl) ?_
      refine am_steps ok_De_judgeRedemption 1 (x' := (28, [some (.ref 20), some (.ref 2)], [.ref 2, .ref 10], h0, 0, 0)) rfl (Nat.le_of_ble_eq_true rfl) (Nat.le_of_ble_eq_true rfl) ?_
      refine hr_get ok_De_judgeRedemption rfl hR (kd := 8) (hs_k hR (a := 2) rfl) rfl (Nat.le_of_ble_eq_true rfl) (Nat.le_of_ble_eq_true rfl) (v := .ref 5) (congrArg va_rf (hR.2.2.2.2.1 (809, 2, 5) (by decide))) (pc' := 31) rfl (Nat.le_of_ble_eq_true rfl) (Nat.le_of_ble_eq_true rfl) ?_
      refine am_steps ok_De_judgeRedemption 1 (x' := (32, [some (.ref 20), some (.ref 2)], [.int 1, .ref 5, .ref 10], h0, 0, 0)) rfl (Nat.le_of_ble_eq_true rfl) (Nat.le_of_ble_eq_true rfl) ?_
      refine hr_iald ok_De_judgeRedemption rfl hR (hs_k hR (a := 5) rfl) (hs_ln hR rfl) hx2 (pc' := 33) rfl (Nat.le_of_ble_eq_true rfl) (Nat.le_of_ble_eq_true rfl) ?_
      refine am_steps ok_De_judgeRedemption 1 (x' := (34, [some (.ref 20), some (.ref 2)], [.ref 2, .int (S.2.2.2.2.1 5 j1), .ref 10], h0, 0, 0)) rfl (Nat.le_of_ble_eq_true rfl) (Nat.le_of_ble_eq_true rfl) ?_
      refine hr_get ok_De_judgeRedemption rfl hR (kd := 8) (hs_k hR (a := 2) rfl) rfl (Nat.le_of_ble_eq_true rfl) (Nat.le_of_ble_eq_true rfl) (v := .ref 5) (congrArg va_rf (hR.2.2.2.2.1 (809, 2, 5) (by decide))) (pc' := 37) rfl (Nat.le_of_ble_eq_true rfl) (Nat.le_of_ble_eq_true rfl) ?_
      refine am_steps ok_De_judgeRedemption 1 (x' := (38, [some (.ref 20), some (.ref 2)], [.int 0, .ref 5, .int (S.2.2.2.2.1 5 j1), .ref 10], h0, 0, 0)) rfl (Nat.le_of_ble_eq_true rfl) (Nat.le_of_ble_eq_true rfl) ?_
      obtain ⟨j9, hx10, hd11⟩ := Option.bind_eq_some_iff.mp hd; clear hd; have hd := hd11; clear hd11
      refine hr_iald ok_De_judgeRedemption rfl hR (hs_k hR (a := 5) rfl) (hs_ln hR rfl) hx10 (pc' := 39) rfl (Nat.le_of_ble_eq_true rfl) (Nat.le_of_ble_eq_true rfl) ?_
      obtain ⟨q12, hq13, hd14⟩ := Option.bind_eq_some_iff.mp hd; clear hd; have hd := hd14; clear hd14
      refine ar_cv ok_De_judgeRedemption hk_Bo_account rfl rfl (As := [.int (S.2.2.2.2.1 5 j1), .int (S.2.2.2.2.1 5 j9)]) (ad := 10) (rest := []) rfl rfl (hR.ob (hs_k hR (a := 10) rfl) (Nat.le_of_ble_eq_true rfl)) (Nat.le_of_ble_eq_true rfl) (c_Bo_account (S.2.2.2.2.1 5 j1) (S.2.2.2.2.1 5 j9) S h0 hR  q12 hq13) (Nat.le_of_ble_eq_true rfl) (Nat.le_of_ble_eq_true rfl) (Nat.le_of_ble_eq_true rfl) (Nat.le_of_ble_eq_true rfl) (pc' := 42) rfl (fun r15 h17 z16 => ?_)
      obtain ⟨rfl, hk18, hR19, g20, e21⟩ := z16
      have f22 := hF.tr hF.rf g20
      show am_S _ _ _ _ _ _ _ (42, [some (.ref 20), some (.ref 2)], [.ref q12.1], h17, 1, 10) _
      refine am_steps ok_De_judgeRedemption 1 (x' := (43, [some (.ref 20), some (.ref 2)], [.ref 2, .ref q12.1], h17, 1, 10)) rfl (Nat.le_of_ble_eq_true rfl) (Nat.le_of_ble_eq_true rfl) ?_
      refine hr_get ok_De_judgeRedemption rfl hR19 (kd := 8) (hs_k hR19 (a := 2) rfl) rfl (Nat.le_of_ble_eq_true rfl) (Nat.le_of_ble_eq_true rfl) (v := .ref 6) (congrArg va_rf (hR19.2.2.2.2.1 (811, 2, 6) (by decide))) (pc' := 46) rfl (Nat.le_of_ble_eq_true rfl) (Nat.le_of_ble_eq_true rfl) ?_
      refine am_steps ok_De_judgeRedemption 1 (x' := (47, [some (.ref 20), some (.ref 2)], [.int 0, .ref 6, .ref q12.1], h17, 1, 10)) rfl (Nat.le_of_ble_eq_true rfl) (Nat.le_of_ble_eq_true rfl) ?_
      refine hr_lald ok_De_judgeRedemption rfl hR19 (hs_k hR19 (a := 6) rfl) (hs_ln hR19 rfl) hx6 (pc' := 48) rfl (Nat.le_of_ble_eq_true rfl) (Nat.le_of_ble_eq_true rfl) ?_
      refine am_steps ok_De_judgeRedemption 1 (x' := (49, [some (.ref 20), some (.ref 2)], [.long (-(q12.2.2.2.2.2.2.1 6 j5)), .ref q12.1], h17, 1, 10)) rfl (Nat.le_of_ble_eq_true rfl) (Nat.le_of_ble_eq_true rfl) ?_
      obtain ⟨q23, hq24, hd25⟩ := Option.bind_eq_some_iff.mp hd; clear hd; have hd := hd25; clear hd25
      refine ar_cv ok_De_judgeRedemption hk_Po_canMoveBy rfl rfl (As := [.long (-(q12.2.2.2.2.2.2.1 6 j5))]) (ad := q12.1) (rest := []) rfl rfl (hR19.ob (hk18 _ rfl) (Nat.le_of_ble_eq_true rfl)) (Nat.le_of_ble_eq_true rfl) (c_Po_canMoveBy q12.1 (-(q12.2.2.2.2.2.2.1 6 j5)) q12.2 h17 hR19 (hk18 _ rfl) q23 hq24) (Nat.le_of_ble_eq_true rfl) (Nat.le_of_ble_eq_true rfl) (Nat.le_of_ble_eq_true rfl) (Nat.le_of_ble_eq_true rfl) (pc' := 52) rfl (fun r26 h28 z27 => ?_)
      obtain ⟨rfl, z30⟩ := z27; rw [z30]
      show am_S _ _ _ _ _ _ _ (52, [some (.ref 20), some (.ref 2)], [.int q23], h17, 1, 10) _
      refine am_steps ok_De_judgeRedemption 1 (x' := (if (q23 : Int32) = 0 then 59 else 55, [some (.ref 20), some (.ref 2)], [], h17, 1, 10)) rfl (Nat.le_of_ble_eq_true rfl) (Nat.le_of_ble_eq_true rfl) ?_
      refine am_if (fun hc31 => ?_) (fun hc31 => ?_)
      · rw [if_pos hc31] at hd
        refine am_steps ok_De_judgeRedemption 1 (x' := (61, [some (.ref 20), some (.ref 2)], [.int 9], h17, 1, 10)) rfl (Nat.le_of_ble_eq_true rfl) (Nat.le_of_ble_eq_true rfl) ?_
        cases hd; exact am_ret ok_De_judgeRedemption rfl (Nat.le_of_ble_eq_true rfl) (Nat.le_of_ble_eq_true rfl) ⟨rfl, hR19, f22, (hE.rf.tr e21)⟩
      · rw [if_neg hc31] at hd
        refine am_steps ok_De_judgeRedemption 2 (x' := (61, [some (.ref 20), some (.ref 2)], [.int 0], h17, 1, 10)) rfl (Nat.le_of_ble_eq_true rfl) (Nat.le_of_ble_eq_true rfl) ?_
        cases hd; exact am_ret ok_De_judgeRedemption rfl (Nat.le_of_ble_eq_true rfl) (Nat.le_of_ble_eq_true rfl) ⟨rfl, hR19, f22, (hE.rf.tr e21)⟩
    · rw [if_neg hc8] at hd
      refine am_steps ok_De_judgeRedemption 1 (x' := (22, [some (.ref 20), some (.ref 2)], [.int 8], h0, 0, 0)) rfl (Nat.le_of_ble_eq_true rfl) (Nat.le_of_ble_eq_true rfl) ?_
      cases hd; exact am_ret ok_De_judgeRedemption rfl (Nat.le_of_ble_eq_true rfl) (Nat.le_of_ble_eq_true rfl) ⟨rfl, hR, hF.rf, hE.rf⟩
def h_Qu_isFull  (S : hS) : Option (Int32) := if (((S.2.1 1101 16) + (S.2.1 1103 16)) : Int32) < 250 then (some 0) else (some 1)
set_option maxHeartbeats 4000000 in
set_option maxRecDepth 100000 in
theorem c_Qu_isFull  (S : hS) (h0 : am_H) (hR : RH S h0)  (q : Int32) (hd : h_Qu_isFull  S = some q) : am_Me am_Pr none 0 0 0 0 209 [.ref 16] h0 (am_is (some (.int q)) h0) := by
  refine am_enter (d := hd_Qu_isFull) rfl (by decide +kernel) (Nat.le_of_ble_eq_true rfl) ?_
  show am_S _ _ _ _ _ _ _ (0, [some (.ref 16)], [], h0, 0, 0) _
  unfold h_Qu_isFull at hd
  refine am_steps ok_Qu_isFull 1 (x' := (1, [some (.ref 16)], [.ref 16], h0, 0, 0)) rfl (Nat.le_of_ble_eq_true rfl) (Nat.le_of_ble_eq_true rfl) ?_
  refine hr_get ok_Qu_isFull rfl hR (kd := 11) (hs_k hR (a := 16) rfl) rfl (Nat.le_of_ble_eq_true rfl) (Nat.le_of_ble_eq_true rfl) (v := .int (S.2.1 1101 16)) rfl (pc' := 4) rfl (Nat.le_of_ble_eq_true rfl) (Nat.le_of_ble_eq_true rfl) ?_
  refine am_steps ok_Qu_isFull 1 (x' := (5, [some (.ref 16)], [.ref 16, .int (S.2.1 1101 16)], h0, 0, 0)) rfl (Nat.le_of_ble_eq_true rfl) (Nat.le_of_ble_eq_true rfl) ?_
  refine hr_get ok_Qu_isFull rfl hR (kd := 11) (hs_k hR (a := 16) rfl) rfl (Nat.le_of_ble_eq_true rfl) (Nat.le_of_ble_eq_true rfl) (v := .int (S.2.1 1103 16)) rfl (pc' := 8) rfl (Nat.le_of_ble_eq_true rfl) (Nat.le_of_ble_eq_true rfl) ?_
  refine am_steps ok_Qu_isFull 3 (x' := (if (((S.2.1 1101 16) + (S.2.1 1103 16)) : Int32) < 250 then 19 else 15, [some (.ref 16)], [], h0, 0, 0)) rfl (Nat.le_of_ble_eq_true rfl) (Nat.le_of_ble_eq_true rfl) ?_
  refine am_if (fun hc1 => ?_) (fun hc1 => ?_)
  · rw [if_pos hc1] at hd
    refine am_steps ok_Qu_isFull 1 (x' := (20, [some (.ref 16)], [.int 0], h0, 0, 0)) rfl (Nat.le_of_ble_eq_true rfl) (Nat.le_of_ble_eq_true rfl) ?_
    cases hd; exact am_ret ok_Qu_isFull rfl (Nat.le_of_ble_eq_true rfl) (Nat.le_of_ble_eq_true rfl) ⟨rfl, rfl⟩
  · rw [if_neg hc1] at hd
    refine am_steps ok_Qu_isFull 2 (x' := (20, [some (.ref 16)], [.int 1], h0, 0, 0)) rfl (Nat.le_of_ble_eq_true rfl) (Nat.le_of_ble_eq_true rfl) ?_
    cases hd; exact am_ret ok_Qu_isFull rfl (Nat.le_of_ble_eq_true rfl) (Nat.le_of_ble_eq_true rfl) ⟨rfl, rfl⟩
def hl_De_judgePay_2 : Nat → Int32 → hS → Option (Int32)
  | 0, _, _ => none
  | fu + 1, v2, s => if ((s.2.1 812 2) : Int32) ≤ v2 then ((h_Qu_isFull  s).bind fun q2 => (if (q2 : Int32) = 0 then (some 0) else (some 12))) else ((am_ix (v2 * 3) 12).bind fun j11 => ((am_ix ((v2 * 3) + 1) 12).bind fun j14 => (if ((s.2.2.2.2.1 5 j11) : Int32) = 0 then (some 8) else (if ((s.2.2.2.2.1 5 j14) : Int32) = 0 then (some 8) else (if ((s.2.2.2.2.1 5 j11) : Int32) = (s.2.2.2.2.1 5 j14) then (some 8) else ((am_ix v2 4).bind fun j20 => (if ¬ ((lg_cmp (s.2.2.2.2.2.1 6 j20) 0) : Int32) = 0 then (hl_De_judgePay_2 fu (v2 + 1) s) else (some 8))))))))
set_option maxHeartbeats 4000000 in
set_option maxRecDepth 100000 in
theorem Lc_De_judgePay_2 (s : hS) (h : am_H) (hR : RH s h) : ∀ (fu : Nat) (v2 : Int32), ∀ (q : Int32), hl_De_judgePay_2 fu v2 s = some q → am_S am_Pr none 1 20 0 0 145 (2, [some (.ref 20), some (.ref 2), some (.int v2), none, none], [], h, 0, 0) (am_is (some (.int q)) h) := by
  intro fu
  induction fu with
  | zero => intro v2  q hd; cases hd
  | succ fu ih =>
    intro v2  q hd
    unfold hl_De_judgePay_2 at hd
    refine am_steps ok_De_judgePay 2 (x' := (4, [some (.ref 20), some (.ref 2), some (.int v2), none, none], [.ref 2, .int v2], h, 0, 0)) rfl (Nat.le_of_ble_eq_true rfl) (Nat.le_of_ble_eq_true rfl) ?_
    refine hr_get ok_De_judgePay rfl hR (kd := 8) (hs_k hR (a := 2) rfl) rfl (Nat.le_of_ble_eq_true rfl) (Nat.le_of_ble_eq_true rfl) (v := .int (s.2.1 812 2)) rfl (pc' := 7) rfl (Nat.le_of_ble_eq_true rfl) (Nat.le_of_ble_eq_true rfl) ?_
    refine am_steps ok_De_judgePay 1 (x' := (if ((s.2.1 812 2) : Int32) ≤ v2 then 66 else 10, [some (.ref 20), some (.ref 2), some (.int v2), none, none], [], h, 0, 0)) rfl (Nat.le_of_ble_eq_true rfl) (Nat.le_of_ble_eq_true rfl) ?_
    refine am_if (fun hc1 => ?_) (fun hc1 => ?_)
    · rw [if_pos hc1] at hd
      refine am_steps ok_De_judgePay 1 (x' := (67, [some (.ref 20), some (.ref 2), some (.int v2), none, none], [.ref 20], h, 0, 0)) rfl (Nat.le_of_ble_eq_true rfl) (Nat.le_of_ble_eq_true rfl) ?_
      refine hr_get ok_De_judgePay rfl hR (kd := 5) (hs_k hR (a := 20) rfl) rfl (Nat.le_of_ble_eq_true rfl) (Nat.le_of_ble_eq_true rfl) (v := .ref 16) (congrArg va_rf (hR.2.2.2.2.1 (501, 20, 16) (by decide))) (pc' := 70) rfl (Nat.le_of_ble_eq_true rfl) (Nat.le_of_ble_eq_true rfl) ?_
      obtain ⟨q2, hq3, hd4⟩ := Option.bind_eq_some_iff.mp hd; clear hd; have hd := hd4; clear hd4
      refine ar_cv ok_De_judgePay hk_Qu_isFull rfl rfl (As := []) (ad := 16) (rest := []) rfl rfl (hR.ob (hs_k hR (a := 16) rfl) (Nat.le_of_ble_eq_true rfl)) (Nat.le_of_ble_eq_true rfl) (c_Qu_isFull  s h hR  q2 hq3) (Nat.le_of_ble_eq_true rfl) (Nat.le_of_ble_eq_true rfl) (Nat.le_of_ble_eq_true rfl) (Nat.le_of_ble_eq_true rfl) (pc' := 73) rfl (fun r5 h7 z6 => ?_)
      obtain ⟨rfl, z9⟩ := z6; rw [z9]
      show am_S _ _ _ _ _ _ _ (73, [some (.ref 20), some (.ref 2), some (.int v2), none, none], [.int q2], h, 0, 0) _
      refine am_steps ok_De_judgePay 1 (x' := (if (q2 : Int32) = 0 then 81 else 76, [some (.ref 20), some (.ref 2), some (.int v2), none, none], [], h, 0, 0)) rfl (Nat.le_of_ble_eq_true rfl) (Nat.le_of_ble_eq_true rfl) ?_
      refine am_if (fun hc10 => ?_) (fun hc10 => ?_)
      · rw [if_pos hc10] at hd
        refine am_steps ok_De_judgePay 1 (x' := (82, [some (.ref 20), some (.ref 2), some (.int v2), none, none], [.int 0], h, 0, 0)) rfl (Nat.le_of_ble_eq_true rfl) (Nat.le_of_ble_eq_true rfl) ?_
        cases hd; exact am_ret ok_De_judgePay rfl (Nat.le_of_ble_eq_true rfl) (Nat.le_of_ble_eq_true rfl) ⟨rfl, rfl⟩
      · rw [if_neg hc10] at hd
        refine am_steps ok_De_judgePay 2 (x' := (82, [some (.ref 20), some (.ref 2), some (.int v2), none, none], [.int 12], h, 0, 0)) rfl (Nat.le_of_ble_eq_true rfl) (Nat.le_of_ble_eq_true rfl) ?_
        cases hd; exact am_ret ok_De_judgePay rfl (Nat.le_of_ble_eq_true rfl) (Nat.le_of_ble_eq_true rfl) ⟨rfl, rfl⟩
    · rw [if_neg hc1] at hd
      refine am_steps ok_De_judgePay 1 (x' := (11, [some (.ref 20), some (.ref 2), some (.int v2), none, none], [.ref 2], h, 0, 0)) rfl (Nat.le_of_ble_eq_true rfl) (Nat.le_of_ble_eq_true rfl) ?_
      refine hr_get ok_De_judgePay rfl hR (kd := 8) (hs_k hR (a := 2) rfl) rfl (Nat.le_of_ble_eq_true rfl) (Nat.le_of_ble_eq_true rfl) (v := .ref 5) (congrArg va_rf (hR.2.2.2.2.1 (809, 2, 5) (by decide))) (pc' := 14) rfl (Nat.le_of_ble_eq_true rfl) (Nat.le_of_ble_eq_true rfl) ?_
      refine am_steps ok_De_judgePay 3 (x' := (17, [some (.ref 20), some (.ref 2), some (.int v2), none, none], [.int (v2 * 3), .ref 5], h, 0, 0)) rfl (Nat.le_of_ble_eq_true rfl) (Nat.le_of_ble_eq_true rfl) ?_
      obtain ⟨j11, hx12, hd13⟩ := Option.bind_eq_some_iff.mp hd; clear hd; have hd := hd13; clear hd13
      refine hr_iald ok_De_judgePay rfl hR (hs_k hR (a := 5) rfl) (hs_ln hR rfl) hx12 (pc' := 18) rfl (Nat.le_of_ble_eq_true rfl) (Nat.le_of_ble_eq_true rfl) ?_
      refine am_steps ok_De_judgePay 2 (x' := (20, [some (.ref 20), some (.ref 2), some (.int v2), some (.int (s.2.2.2.2.1 5 j11)), none], [.ref 2], h, 0, 0)) rfl (Nat.le_of_ble_eq_true rfl) (Nat.le_of_ble_eq_true rfl) ?_
      refine hr_get ok_De_judgePay rfl hR (kd := 8) (hs_k hR (a := 2) rfl) rfl (Nat.le_of_ble_eq_true rfl) (Nat.le_of_ble_eq_true rfl) (v := .ref 5) (congrArg va_rf (hR.2.2.2.2.1 (809, 2, 5) (by decide))) (pc' := 23) rfl (Nat.le_of_ble_eq_true rfl) (Nat.le_of_ble_eq_true rfl) ?_
      refine am_steps ok_De_judgePay 5 (x' := (28, [some (.ref 20), some (.ref 2), some (.int v2), some (.int (s.2.2.2.2.1 5 j11)), none], [.int ((v2 * 3) + 1), .ref 5], h, 0, 0)) rfl (Nat.le_of_ble_eq_true rfl) (Nat.le_of_ble_eq_true rfl) ?_
      obtain ⟨j14, hx15, hd16⟩ := Option.bind_eq_some_iff.mp hd; clear hd; have hd := hd16; clear hd16
      refine hr_iald ok_De_judgePay rfl hR (hs_k hR (a := 5) rfl) (hs_ln hR rfl) hx15 (pc' := 29) rfl (Nat.le_of_ble_eq_true rfl) (Nat.le_of_ble_eq_true rfl) ?_
      refine am_steps ok_De_judgePay 3 (x' := (if ((s.2.2.2.2.1 5 j11) : Int32) = 0 then 57 else 35, [some (.ref 20), some (.ref 2), some (.int v2), some (.int (s.2.2.2.2.1 5 j11)), some (.int (s.2.2.2.2.1 5 j14))], [], h, 0, 0)) rfl (Nat.le_of_ble_eq_true rfl) (Nat.le_of_ble_eq_true rfl) ?_
      refine am_if (fun hc17 => ?_) (fun hc17 => ?_)
      · rw [if_pos hc17] at hd
        refine am_steps ok_De_judgePay 1 (x' := (59, [some (.ref 20), some (.ref 2), some (.int v2), some (.int (s.2.2.2.2.1 5 j11)), some (.int (s.2.2.2.2.1 5 j14))], [.int 8], h, 0, 0)) rfl (Nat.le_of_ble_eq_true rfl) (Nat.le_of_ble_eq_true rfl) ?_
        cases hd; exact am_ret ok_De_judgePay rfl (Nat.le_of_ble_eq_true rfl) (Nat.le_of_ble_eq_true rfl) ⟨rfl, rfl⟩
      · rw [if_neg hc17] at hd
        refine am_steps ok_De_judgePay 2 (x' := (if ((s.2.2.2.2.1 5 j14) : Int32) = 0 then 57 else 40, [some (.ref 20), some (.ref 2), some (.int v2), some (.int (s.2.2.2.2.1 5 j11)), some (.int (s.2.2.2.2.1 5 j14))], [], h, 0, 0)) rfl (Nat.le_of_ble_eq_true rfl) (Nat.le_of_ble_eq_true rfl) ?_
        refine am_if (fun hc18 => ?_) (fun hc18 => ?_)
        · rw [if_pos hc18] at hd
          refine am_steps ok_De_judgePay 1 (x' := (59, [some (.ref 20), some (.ref 2), some (.int v2), some (.int (s.2.2.2.2.1 5 j11)), some (.int (s.2.2.2.2.1 5 j14))], [.int 8], h, 0, 0)) rfl (Nat.le_of_ble_eq_true rfl) (Nat.le_of_ble_eq_true rfl) ?_
          cases hd; exact am_ret ok_De_judgePay rfl (Nat.le_of_ble_eq_true rfl) (Nat.le_of_ble_eq_true rfl) ⟨rfl, rfl⟩
        · rw [if_neg hc18] at hd
          refine am_steps ok_De_judgePay 3 (x' := (if ((s.2.2.2.2.1 5 j11) : Int32) = (s.2.2.2.2.1 5 j14) then 57 else 46, [some (.ref 20), some (.ref 2), some (.int v2), some (.int (s.2.2.2.2.1 5 j11)), some (.int (s.2.2.2.2.1 5 j14))], [], h, 0, 0)) rfl (Nat.le_of_ble_eq_true rfl) (Nat.le_of_ble_eq_true rfl) ?_
          refine am_if (fun hc19 => ?_) (fun hc19 => ?_)
          · rw [if_pos hc19] at hd
            refine am_steps ok_De_judgePay 1 (x' := (59, [some (.ref 20), some (.ref 2), some (.int v2), some (.int (s.2.2.2.2.1 5 j11)), some (.int (s.2.2.2.2.1 5 j14))], [.int 8], h, 0, 0)) rfl (Nat.le_of_ble_eq_true rfl) (Nat.le_of_ble_eq_true rfl) ?_
            cases hd; exact am_ret ok_De_judgePay rfl (Nat.le_of_ble_eq_true rfl) (Nat.le_of_ble_eq_true rfl) ⟨rfl, rfl⟩
          · rw [if_neg hc19] at hd
            refine am_steps ok_De_judgePay 1 (x' := (47, [some (.ref 20), some (.ref 2), some (.int v2), some (.int (s.2.2.2.2.1 5 j11)), some (.int (s.2.2.2.2.1 5 j14))], [.ref 2], h, 0, 0)) rfl (Nat.le_of_ble_eq_true rfl) (Nat.le_of_ble_eq_true rfl) ?_
            refine hr_get ok_De_judgePay rfl hR (kd := 8) (hs_k hR (a := 2) rfl) rfl (Nat.le_of_ble_eq_true rfl) (Nat.le_of_ble_eq_true rfl) (v := .ref 6) (congrArg va_rf (hR.2.2.2.2.1 (811, 2, 6) (by decide))) (pc' := 50) rfl (Nat.le_of_ble_eq_true rfl) (Nat.le_of_ble_eq_true rfl) ?_
            refine am_steps ok_De_judgePay 1 (x' := (51, [some (.ref 20), some (.ref 2), some (.int v2), some (.int (s.2.2.2.2.1 5 j11)), some (.int (s.2.2.2.2.1 5 j14))], [.int v2, .ref 6], h, 0, 0)) rfl (Nat.le_of_ble_eq_true rfl) (Nat.le_of_ble_eq_true rfl) ?_
            obtain ⟨j20, hx21, hd22⟩ := Option.bind_eq_some_iff.mp hd; clear hd; have hd := hd22; clear hd22
            refine hr_lald ok_De_judgePay rfl hR (hs_k hR (a := 6) rfl) (hs_ln hR rfl) hx21 (pc' := 52) rfl (Nat.le_of_ble_eq_true rfl) (Nat.le_of_ble_eq_true rfl) ?_
            refine am_steps ok_De_judgePay 3 (x' := (if ¬ ((lg_cmp (s.2.2.2.2.2.1 6 j20) 0) : Int32) = 0 then 60 else 57, [some (.ref 20), some (.ref 2), some (.int v2), some (.int (s.2.2.2.2.1 5 j11)), some (.int (s.2.2.2.2.1 5 j14))], [], h, 0, 0)) rfl (Nat.le_of_ble_eq_true rfl) (Nat.le_of_ble_eq_true rfl) ?_
            refine am_if (fun hc23 => ?_) (fun hc23 => ?_)
            · rw [if_pos hc23] at hd
              refine am_steps ok_De_judgePay 2 (x' := (2, [some (.ref 20), some (.ref 2), some (.int (v2 + 1)), some (.int (s.2.2.2.2.1 5 j11)), some (.int (s.2.2.2.2.1 5 j14))], [], h, 0, 0)) rfl (Nat.le_of_ble_eq_true rfl) (Nat.le_of_ble_eq_true rfl) ?_
              refine am_drop 3 ?_
              refine am_drop 4 ?_
              exact ih (v2 + 1)  q hd
            · rw [if_neg hc23] at hd
              refine am_steps ok_De_judgePay 1 (x' := (59, [some (.ref 20), some (.ref 2), some (.int v2), some (.int (s.2.2.2.2.1 5 j11)), some (.int (s.2.2.2.2.1 5 j14))], [.int 8], h, 0, 0)) rfl (Nat.le_of_ble_eq_true rfl) (Nat.le_of_ble_eq_true rfl) ?_
              cases hd; exact am_ret ok_De_judgePay rfl (Nat.le_of_ble_eq_true rfl) (Nat.le_of_ble_eq_true rfl) ⟨rfl, rfl⟩
def h_De_judgePay  (S : hS) : Option (Int32) := hl_De_judgePay_2 100000 0 S
set_option maxHeartbeats 4000000 in
set_option maxRecDepth 100000 in
theorem c_De_judgePay  (S : hS) (h0 : am_H) (hR : RH S h0)  (q : Int32) (hd : h_De_judgePay  S = some q) : am_Me am_Pr none 1 20 0 0 145 [.ref 20, .ref 2] h0 (am_is (some (.int q)) h0) := by
  refine am_enter (d := hd_De_judgePay) rfl (by decide +kernel) (Nat.le_of_ble_eq_true rfl) ?_
  show am_S _ _ _ _ _ _ _ (0, [some (.ref 20), some (.ref 2), none, none, none], [], h0, 0, 0) _
  unfold h_De_judgePay at hd
  refine am_steps ok_De_judgePay 2 (x' := (2, [some (.ref 20), some (.ref 2), some (.int 0), none, none], [], h0, 0, 0)) rfl (Nat.le_of_ble_eq_true rfl) (Nat.le_of_ble_eq_true rfl) ?_
  exact Lc_De_judgePay_2 S h0 hR 100000 0  q hd
def hl_Qu_findIn_3 : Nat → Nat → Int32 → Int32 → Int64 → Int32 → hS → Option (Option Nat)
  | 0, _, _, _, _, _, _ => none
  | fu + 1, v0, v1, v2, v3, v5, s => if (v1 : Int32) ≤ v5 then (some none) else ((am_ix v5 (hln s.1 v0)).bind fun j2 => (((s.2.2.2.2.2.2 v0 j2)).bind fun b5 => (if ¬ ((s.2.1 700 b5) : Int32) = v2 then (hl_Qu_findIn_3 fu v0 v1 v2 v3 (v5 + 1) s) else (if ¬ ((lg_cmp (s.2.2.1 702 b5) v3) : Int32) = 0 then (hl_Qu_findIn_3 fu v0 v1 v2 v3 (v5 + 1) s) else (some (some b5))))))
set_option maxHeartbeats 4000000 in
set_option maxRecDepth 100000 in
theorem Lc_Qu_findIn_3 (s : hS) (h : am_H) (hR : RH s h) : ∀ (fu : Nat) (v0 : Nat) (v1 : Int32) (v2 : Int32) (v3 : Int64) (v5 : Int32), (hK s.1 v0 27) → ∀ (q : Option Nat), hl_Qu_findIn_3 fu v0 v1 v2 v3 v5 s = some q → am_S am_Pr none 0 0 0 0 211 (3, [some (.ref v0), some (.int v1), some (.int v2), some (.long v3), none, some (.int v5)], [], h, 0, 0) (hPo (va_rf q) q 7 s.1 h) := by
  intro fu
  induction fu with
  | zero => intro v0 v1 v2 v3 v5 hv0 q hd; cases hd
  | succ fu ih =>
    intro v0 v1 v2 v3 v5 hv0 q hd
    unfold hl_Qu_findIn_3 at hd
    refine am_steps ok_Qu_findIn 3 (x' := (if (v1 : Int32) ≤ v5 then 43 else 9, [some (.ref v0), some (.int v1), some (.int v2), some (.long v3), none, some (.int v5)], [], h, 0, 0)) rfl (Nat.le_of_ble_eq_true rfl) (Nat.le_of_ble_eq_true rfl) ?_
    refine am_if (fun hc1 => ?_) (fun hc1 => ?_)
    · rw [if_pos hc1] at hd
      refine am_steps ok_Qu_findIn 1 (x' := (44, [some (.ref v0), some (.int v1), some (.int v2), some (.long v3), none, some (.int v5)], [.null], h, 0, 0)) rfl (Nat.le_of_ble_eq_true rfl) (Nat.le_of_ble_eq_true rfl) ?_
      cases hd; exact am_ret ok_Qu_findIn rfl (Nat.le_of_ble_eq_true rfl) (Nat.le_of_ble_eq_true rfl) ⟨rfl, rfl, (fun _ hz => nomatch hz)⟩
    · rw [if_neg hc1] at hd
      refine am_steps ok_Qu_findIn 2 (x' := (12, [some (.ref v0), some (.int v1), some (.int v2), some (.long v3), none, some (.int v5)], [.int v5, .ref v0], h, 0, 0)) rfl (Nat.le_of_ble_eq_true rfl) (Nat.le_of_ble_eq_true rfl) ?_
      obtain ⟨j2, hx3, hd4⟩ := Option.bind_eq_some_iff.mp hd; clear hd; have hd := hd4; clear hd4
      refine hr_aald ok_Qu_findIn rfl hR (kd := 27) hv0 (by decide) rfl hx3 (pc' := 13) rfl (Nat.le_of_ble_eq_true rfl) (Nat.le_of_ble_eq_true rfl) ?_
      obtain ⟨b5, hb6, hd7⟩ := Option.bind_eq_some_iff.mp hd; clear hd; have hd := hd7; clear hd7
      have hk8 := (fun b hb => hR.2.2.2.1 _ _ (hK.ln hv0) _ b hb) b5 hb6
      rw [hb6]
      show am_S _ _ _ _ _ _ _ (13, [some (.ref v0), some (.int v1), some (.int v2), some (.long v3), none, some (.int v5)], [.ref b5], h, 0, 0) _
      refine hr_get ok_Qu_findIn rfl hR (kd := 7) hk8 rfl (Nat.le_of_ble_eq_true rfl) (Nat.le_of_ble_eq_true rfl) (v := .int (s.2.1 700 b5)) rfl (pc' := 16) rfl (Nat.le_of_ble_eq_true rfl) (Nat.le_of_ble_eq_true rfl) ?_
      refine am_steps ok_Qu_findIn 2 (x' := (if ¬ ((s.2.1 700 b5) : Int32) = v2 then 37 else 20, [some (.ref v0), some (.int v1), some (.int v2), some (.long v3), none, some (.int v5)], [], h, 0, 0)) rfl (Nat.le_of_ble_eq_true rfl) (Nat.le_of_ble_eq_true rfl) ?_
      refine am_if (fun hc9 => ?_) (fun hc9 => ?_)
      · rw [if_pos hc9] at hd
        refine am_steps ok_Qu_findIn 2 (x' := (3, [some (.ref v0), some (.int v1), some (.int v2), some (.long v3), none, some (.int (v5 + 1))], [], h, 0, 0)) rfl (Nat.le_of_ble_eq_true rfl) (Nat.le_of_ble_eq_true rfl) ?_
        exact ih v0 v1 v2 v3 (v5 + 1) hv0 q hd
      · rw [if_neg hc9] at hd
        refine am_steps ok_Qu_findIn 2 (x' := (23, [some (.ref v0), some (.int v1), some (.int v2), some (.long v3), none, some (.int v5)], [.int v5, .ref v0], h, 0, 0)) rfl (Nat.le_of_ble_eq_true rfl) (Nat.le_of_ble_eq_true rfl) ?_
        refine hr_aald ok_Qu_findIn rfl hR (kd := 27) hv0 (by decide) rfl hx3 (pc' := 24) rfl (Nat.le_of_ble_eq_true rfl) (Nat.le_of_ble_eq_true rfl) ?_
        show am_S _ _ _ _ _ _ _ (24, [some (.ref v0), some (.int v1), some (.int v2), some (.long v3), none, some (.int v5)], [va_rf (s.2.2.2.2.2.2 v0 j2)], h, 0, 0) _
        rw [show va_rf (s.2.2.2.2.2.2 v0 j2) = .ref b5 from congrArg va_rf hb6]
        show am_S _ _ _ _ _ _ _ (24, [some (.ref v0), some (.int v1), some (.int v2), some (.long v3), none, some (.int v5)], [.ref b5], h, 0, 0) _
        refine hr_get ok_Qu_findIn rfl hR (kd := 7) hk8 rfl (Nat.le_of_ble_eq_true rfl) (Nat.le_of_ble_eq_true rfl) (v := .long (s.2.2.1 702 b5)) rfl (pc' := 27) rfl (Nat.le_of_ble_eq_true rfl) (Nat.le_of_ble_eq_true rfl) ?_
        refine am_steps ok_Qu_findIn 3 (x' := (if ¬ ((lg_cmp (s.2.2.1 702 b5) v3) : Int32) = 0 then 37 else 32, [some (.ref v0), some (.int v1), some (.int v2), some (.long v3), none, some (.int v5)], [], h, 0, 0)) rfl (Nat.le_of_ble_eq_true rfl) (Nat.le_of_ble_eq_true rfl) ?_
        refine am_if (fun hc10 => ?_) (fun hc10 => ?_)
        · rw [if_pos hc10] at hd
          refine am_steps ok_Qu_findIn 2 (x' := (3, [some (.ref v0), some (.int v1), some (.int v2), some (.long v3), none, some (.int (v5 + 1))], [], h, 0, 0)) rfl (Nat.le_of_ble_eq_true rfl) (Nat.le_of_ble_eq_true rfl) ?_
          exact ih v0 v1 v2 v3 (v5 + 1) hv0 q hd
        · rw [if_neg hc10] at hd
          refine am_steps ok_Qu_findIn 2 (x' := (35, [some (.ref v0), some (.int v1), some (.int v2), some (.long v3), none, some (.int v5)], [.int v5, .ref v0], h, 0, 0)) rfl (Nat.le_of_ble_eq_true rfl) (Nat.le_of_ble_eq_true rfl) ?_
          refine hr_aald ok_Qu_findIn rfl hR (kd := 27) hv0 (by decide) rfl hx3 (pc' := 36) rfl (Nat.le_of_ble_eq_true rfl) (Nat.le_of_ble_eq_true rfl) ?_
          show am_S _ _ _ _ _ _ _ (36, [some (.ref v0), some (.int v1), some (.int v2), some (.long v3), none, some (.int v5)], [va_rf (s.2.2.2.2.2.2 v0 j2)], h, 0, 0) _
          rw [show va_rf (s.2.2.2.2.2.2 v0 j2) = .ref b5 from congrArg va_rf hb6]
          show am_S _ _ _ _ _ _ _ (36, [some (.ref v0), some (.int v1), some (.int v2), some (.long v3), none, some (.int v5)], [.ref b5], h, 0, 0) _
          cases hd; exact am_ret ok_Qu_findIn rfl (Nat.le_of_ble_eq_true rfl) (Nat.le_of_ble_eq_true rfl) ⟨rfl, rfl, (fun _ hz => by cases hz; exact hk8)⟩
def h_Qu_findIn (a : Nat) (b : Int32) (c : Int32) (d : Int64) (S : hS) : Option (Option Nat) := hl_Qu_findIn_3 100000 a b c d 0 S
set_option maxHeartbeats 4000000 in
set_option maxRecDepth 100000 in
theorem c_Qu_findIn (a : Nat) (b : Int32) (c : Int32) (d : Int64) (S : hS) (h0 : am_H) (hR : RH S h0) (ha : hK S.1 a 27) (q : Option Nat) (hd : h_Qu_findIn a b c d S = some q) : am_Me am_Pr none 0 0 0 0 211 [.ref a, .int b, .int c, .long d] h0 (hPo (va_rf q) q 7 S.1 h0) := by
  refine am_enter (d := hd_Qu_findIn) rfl (by decide +kernel) (Nat.le_of_ble_eq_true rfl) ?_
  show am_S _ _ _ _ _ _ _ (0, [some (.ref a), some (.int b), some (.int c), some (.long d), none, none], [], h0, 0, 0) _
  unfold h_Qu_findIn at hd
  refine am_steps ok_Qu_findIn 2 (x' := (3, [some (.ref a), some (.int b), some (.int c), some (.long d), none, some (.int 0)], [], h0, 0, 0)) rfl (Nat.le_of_ble_eq_true rfl) (Nat.le_of_ble_eq_true rfl) ?_
  exact Lc_Qu_findIn_3 S h0 hR 100000 a b c d 0 ha q hd
def h_Qu_find (a : Int32) (b : Int64) (S : hS) : Option (Option Nat) := (h_Qu_findIn 17 (S.2.1 1101 16) a b S).bind fun q1 => (if q1 = none then ((h_Qu_findIn 18 (S.2.1 1103 16) a b S).bind fun q10 => (some q10)) else ((q1).bind fun b18 => (some (some b18))))
set_option maxHeartbeats 4000000 in
set_option maxRecDepth 100000 in
theorem c_Qu_find (a : Int32) (b : Int64) (S : hS) (h0 : am_H) (hR : RH S h0)  (q : Option Nat) (hd : h_Qu_find a b S = some q) : am_Me am_Pr none 1 25 0 0 210 [.ref 16, .int a, .long b] h0 (hPo (va_rf q) q 7 S.1 h0) := by
  refine am_enter (d := hd_Qu_find) rfl (by decide +kernel) (Nat.le_of_ble_eq_true rfl) ?_
  show am_S _ _ _ _ _ _ _ (0, [some (.ref 16), some (.int a), some (.long b), none, none], [], h0, 0, 0) _
  unfold h_Qu_find at hd
  refine am_steps ok_Qu_find 1 (x' := (1, [some (.ref 16), some (.int a), some (.long b), none, none], [.ref 16], h0, 0, 0)) rfl (Nat.le_of_ble_eq_true rfl) (Nat.le_of_ble_eq_true rfl) ?_
  refine hr_get ok_Qu_find rfl hR (kd := 11) (hs_k hR (a := 16) rfl) rfl (Nat.le_of_ble_eq_true rfl) (Nat.le_of_ble_eq_true rfl) (v := .ref 17) (congrArg va_rf (hR.2.2.2.2.1 (1100, 16, 17) (by decide))) (pc' := 4) rfl (Nat.le_of_ble_eq_true rfl) (Nat.le_of_ble_eq_true rfl) ?_
  refine am_steps ok_Qu_find 1 (x' := (5, [some (.ref 16), some (.int a), some (.long b), none, none], [.ref 16, .ref 17], h0, 0, 0)) rfl (Nat.le_of_ble_eq_true rfl) (Nat.le_of_ble_eq_true rfl) ?_
  refine hr_get ok_Qu_find rfl hR (kd := 11) (hs_k hR (a := 16) rfl) rfl (Nat.le_of_ble_eq_true rfl) (Nat.le_of_ble_eq_true rfl) (v := .int (S.2.1 1101 16)) rfl (pc' := 8) rfl (Nat.le_of_ble_eq_true rfl) (Nat.le_of_ble_eq_true rfl) ?_
  refine am_steps ok_Qu_find 2 (x' := (10, [some (.ref 16), some (.int a), some (.long b), none, none], [.long b, .int a, .int (S.2.1 1101 16), .ref 17], h0, 0, 0)) rfl (Nat.le_of_ble_eq_true rfl) (Nat.le_of_ble_eq_true rfl) ?_
  obtain ⟨q1, hq2, hd3⟩ := Option.bind_eq_some_iff.mp hd; clear hd; have hd := hd3; clear hd3
  refine am_call ok_Qu_find hk_Qu_findIn rfl (args' := [.ref 17, .int (S.2.1 1101 16), .int a, .long b]) (rest := []) rfl (c_Qu_findIn 17 (S.2.1 1101 16) a b S h0 hR (hs_k hR (a := 17) rfl) q1 hq2) (Nat.le_of_ble_eq_true rfl) (Nat.le_of_ble_eq_true rfl) (Nat.le_of_ble_eq_true rfl) (Nat.le_of_ble_eq_true rfl) (fun r4 h6 z5 => ?_)
  obtain ⟨rfl, z8, hk7⟩ := z5; rw [z8]
  show am_S _ _ _ _ _ _ _ (13, [some (.ref 16), some (.int a), some (.long b), none, none], [va_rf q1], h0, 0, 0) _
  refine hr_astore ok_Qu_find rfl (Nat.le_of_ble_eq_true rfl) (lo' := [some (.ref 16), some (.int a), some (.long b), none, some (va_rf q1)]) rfl (pc' := 15) rfl (Nat.le_of_ble_eq_true rfl) (Nat.le_of_ble_eq_true rfl) ?_
  refine hr_aload ok_Qu_find rfl rfl (pc' := 17) rfl (Nat.le_of_ble_eq_true rfl) (Nat.le_of_ble_eq_true rfl) ?_
  refine hr_ifnull ok_Qu_find rfl (pc' := 20) rfl (Nat.le_of_ble_eq_true rfl) (Nat.le_of_ble_eq_true rfl) ?_
  refine am_if (fun hc9 => ?_) (fun hc9 => ?_)
  · rw [if_pos hc9] at hd
    refine am_steps ok_Qu_find 1 (x' := (26, [some (.ref 16), some (.int a), some (.long b), none, some (va_rf q1)], [.ref 16], h0, 0, 0)) rfl (Nat.le_of_ble_eq_true rfl) (Nat.le_of_ble_eq_true rfl) ?_
    refine hr_get ok_Qu_find rfl hR (kd := 11) (hs_k hR (a := 16) rfl) rfl (Nat.le_of_ble_eq_true rfl) (Nat.le_of_ble_eq_true rfl) (v := .ref 18) (congrArg va_rf (hR.2.2.2.2.1 (1102, 16, 18) (by decide))) (pc' := 29) rfl (Nat.le_of_ble_eq_true rfl) (Nat.le_of_ble_eq_true rfl) ?_
    refine am_steps ok_Qu_find 1 (x' := (30, [some (.ref 16), some (.int a), some (.long b), none, some (va_rf q1)], [.ref 16, .ref 18], h0, 0, 0)) rfl (Nat.le_of_ble_eq_true rfl) (Nat.le_of_ble_eq_true rfl) ?_
    refine hr_get ok_Qu_find rfl hR (kd := 11) (hs_k hR (a := 16) rfl) rfl (Nat.le_of_ble_eq_true rfl) (Nat.le_of_ble_eq_true rfl) (v := .int (S.2.1 1103 16)) rfl (pc' := 33) rfl (Nat.le_of_ble_eq_true rfl) (Nat.le_of_ble_eq_true rfl) ?_
    refine am_steps ok_Qu_find 2 (x' := (35, [some (.ref 16), some (.int a), some (.long b), none, some (va_rf q1)], [.long b, .int a, .int (S.2.1 1103 16), .ref 18], h0, 0, 0)) rfl (Nat.le_of_ble_eq_true rfl) (Nat.le_of_ble_eq_true rfl) ?_
    obtain ⟨q10, hq11, hd12⟩ := Option.bind_eq_some_iff.mp hd; clear hd; have hd := hd12; clear hd12
    refine am_call ok_Qu_find hk_Qu_findIn rfl (args' := [.ref 18, .int (S.2.1 1103 16), .int a, .long b]) (rest := []) rfl (c_Qu_findIn 18 (S.2.1 1103 16) a b S h0 hR (hs_k hR (a := 18) rfl) q10 hq11) (Nat.le_of_ble_eq_true rfl) (Nat.le_of_ble_eq_true rfl) (Nat.le_of_ble_eq_true rfl) (Nat.le_of_ble_eq_true rfl) (fun r13 h15 z14 => ?_)
    obtain ⟨rfl, z17, hk16⟩ := z14; rw [z17]
    show am_S _ _ _ _ _ _ _ (38, [some (.ref 16), some (.int a), some (.long b), none, some (va_rf q1)], [va_rf q10], h0, 0, 0) _
    cases hd; exact hr_ret ok_Qu_find rfl ⟨hd_Qu_find, rfl, _, rfl, Or.inl ⟨_, rfl⟩⟩ (Nat.le_of_ble_eq_true rfl) (Nat.le_of_ble_eq_true rfl) ⟨rfl, rfl, hk16⟩
  · rw [if_neg hc9] at hd
    obtain ⟨b18, hb19, hd20⟩ := Option.bind_eq_some_iff.mp hd; clear hd; have hd := hd20; clear hd20
    have hk21 := hk7 b18 hb19
    rw [hb19]
    show am_S _ _ _ _ _ _ _ (20, [some (.ref 16), some (.int a), some (.long b), none, some (.ref b18)], [], h0, 0, 0) _
    refine am_steps ok_Qu_find 2 (x' := (38, [some (.ref 16), some (.int a), some (.long b), none, some (.ref b18)], [.ref b18], h0, 0, 0)) rfl (Nat.le_of_ble_eq_true rfl) (Nat.le_of_ble_eq_true rfl) ?_
    cases hd; exact am_ret ok_Qu_find rfl (Nat.le_of_ble_eq_true rfl) (Nat.le_of_ble_eq_true rfl) ⟨rfl, rfl, (fun _ hz => by cases hz; exact hk21)⟩
def hl_In_awaits_2 : Nat → Nat → Int32 → Int32 → hS → Option (Int32)
  | 0, _, _, _, _ => none
  | fu + 1, v0, v1, v2, s => if ((s.2.1 707 v0) : Int32) ≤ v2 then (some 0) else (((s.2.2.2.1 706 v0)).bind fun b2 => ((am_ix v2 (hln s.1 b2)).bind fun j6 => (if ¬ ((s.2.2.2.2.1 b2 j6) : Int32) = v1 then (hl_In_awaits_2 fu v0 v1 (v2 + 1) s) else (some 1))))
set_option maxHeartbeats 4000000 in
set_option maxRecDepth 100000 in
theorem Lc_In_awaits_2 (s : hS) (h : am_H) (hR : RH s h) : ∀ (fu : Nat) (v0 : Nat) (v1 : Int32) (v2 : Int32), (hK s.1 v0 7) → ∀ (q : Int32), hl_In_awaits_2 fu v0 v1 v2 s = some q → am_S am_Pr none 0 0 0 0 170 (2, [some (.ref v0), some (.int v1), some (.int v2)], [], h, 0, 0) (am_is (some (.int q)) h) := by
  intro fu
  induction fu with
  | zero => intro v0 v1 v2 hv0 q hd; cases hd
  | succ fu ih =>
    intro v0 v1 v2 hv0 q hd
    unfold hl_In_awaits_2 at hd
    refine am_steps ok_In_awaits 2 (x' := (4, [some (.ref v0), some (.int v1), some (.int v2)], [.ref v0, .int v2], h, 0, 0)) rfl (Nat.le_of_ble_eq_true rfl) (Nat.le_of_ble_eq_true rfl) ?_
    refine hr_get ok_In_awaits rfl hR (kd := 7) hv0 rfl (Nat.le_of_ble_eq_true rfl) (Nat.le_of_ble_eq_true rfl) (v := .int (s.2.1 707 v0)) rfl (pc' := 7) rfl (Nat.le_of_ble_eq_true rfl) (Nat.le_of_ble_eq_true rfl) ?_
    refine am_steps ok_In_awaits 1 (x' := (if ((s.2.1 707 v0) : Int32) ≤ v2 then 28 else 10, [some (.ref v0), some (.int v1), some (.int v2)], [], h, 0, 0)) rfl (Nat.le_of_ble_eq_true rfl) (Nat.le_of_ble_eq_true rfl) ?_
    refine am_if (fun hc1 => ?_) (fun hc1 => ?_)
    · rw [if_pos hc1] at hd
      refine am_steps ok_In_awaits 1 (x' := (29, [some (.ref v0), some (.int v1), some (.int v2)], [.int 0], h, 0, 0)) rfl (Nat.le_of_ble_eq_true rfl) (Nat.le_of_ble_eq_true rfl) ?_
      cases hd; exact am_ret ok_In_awaits rfl (Nat.le_of_ble_eq_true rfl) (Nat.le_of_ble_eq_true rfl) ⟨rfl, rfl⟩
    · rw [if_neg hc1] at hd
      refine am_steps ok_In_awaits 1 (x' := (11, [some (.ref v0), some (.int v1), some (.int v2)], [.ref v0], h, 0, 0)) rfl (Nat.le_of_ble_eq_true rfl) (Nat.le_of_ble_eq_true rfl) ?_
      refine hr_get ok_In_awaits rfl hR (kd := 7) hv0 rfl (Nat.le_of_ble_eq_true rfl) (Nat.le_of_ble_eq_true rfl) (v := va_rf (s.2.2.2.1 706 v0)) rfl (pc' := 14) rfl (Nat.le_of_ble_eq_true rfl) (Nat.le_of_ble_eq_true rfl) ?_
      refine am_steps ok_In_awaits 1 (x' := (15, [some (.ref v0), some (.int v1), some (.int v2)], [.int v2, va_rf (s.2.2.2.1 706 v0)], h, 0, 0)) rfl (Nat.le_of_ble_eq_true rfl) (Nat.le_of_ble_eq_true rfl) ?_
      obtain ⟨b2, hb3, hd4⟩ := Option.bind_eq_some_iff.mp hd; clear hd; have hd := hd4; clear hd4
      have hk5 := (fun b hb => hR.2.2.1 706 _ b hb) b2 hb3
      rw [hb3]
      show am_S _ _ _ _ _ _ _ (15, [some (.ref v0), some (.int v1), some (.int v2)], [.int v2, .ref b2], h, 0, 0) _
      obtain ⟨j6, hx7, hd8⟩ := Option.bind_eq_some_iff.mp hd; clear hd; have hd := hd8; clear hd8
      refine hr_iald ok_In_awaits rfl hR hk5 rfl hx7 (pc' := 16) rfl (Nat.le_of_ble_eq_true rfl) (Nat.le_of_ble_eq_true rfl) ?_
      refine am_steps ok_In_awaits 2 (x' := (if ¬ ((s.2.2.2.2.1 b2 j6) : Int32) = v1 then 22 else 20, [some (.ref v0), some (.int v1), some (.int v2)], [], h, 0, 0)) rfl (Nat.le_of_ble_eq_true rfl) (Nat.le_of_ble_eq_true rfl) ?_
      refine am_if (fun hc9 => ?_) (fun hc9 => ?_)
      · rw [if_pos hc9] at hd
        refine am_steps ok_In_awaits 2 (x' := (2, [some (.ref v0), some (.int v1), some (.int (v2 + 1))], [], h, 0, 0)) rfl (Nat.le_of_ble_eq_true rfl) (Nat.le_of_ble_eq_true rfl) ?_
        exact ih v0 v1 (v2 + 1) hv0 q hd
      · rw [if_neg hc9] at hd
        refine am_steps ok_In_awaits 1 (x' := (21, [some (.ref v0), some (.int v1), some (.int v2)], [.int 1], h, 0, 0)) rfl (Nat.le_of_ble_eq_true rfl) (Nat.le_of_ble_eq_true rfl) ?_
        cases hd; exact am_ret ok_In_awaits rfl (Nat.le_of_ble_eq_true rfl) (Nat.le_of_ble_eq_true rfl) ⟨rfl, rfl⟩
def h_In_awaits (a : Nat) (b : Int32) (S : hS) : Option (Int32) := hl_In_awaits_2 100000 a b 0 S
set_option maxHeartbeats 4000000 in
set_option maxRecDepth 100000 in
theorem c_In_awaits (a : Nat) (b : Int32) (S : hS) (h0 : am_H) (hR : RH S h0) (ha : hK S.1 a 7) (q : Int32) (hd : h_In_awaits a b S = some q) : am_Me am_Pr none 0 0 0 0 170 [.ref a, .int b] h0 (am_is (some (.int q)) h0) := by
  refine am_enter (d := hd_In_awaits) rfl (by decide +kernel) (Nat.le_of_ble_eq_true rfl) ?_
  show am_S _ _ _ _ _ _ _ (0, [some (.ref a), some (.int b), none], [], h0, 0, 0) _
  unfold h_In_awaits at hd
  refine am_steps ok_In_awaits 2 (x' := (2, [some (.ref a), some (.int b), some (.int 0)], [], h0, 0, 0)) rfl (Nat.le_of_ble_eq_true rfl) (Nat.le_of_ble_eq_true rfl) ?_
  exact Lc_In_awaits_2 S h0 hR 100000 a b 0 ha q hd
def h_De_judgeConfirmation  (S : hS) : Option (Int32) := (am_ix 0 12).bind fun j1 => ((h_Qu_find (S.2.2.2.2.1 5 j1) (S.2.2.1 818 2) S).bind fun q4 => (if q4 = none then (some 11) else ((q4).bind fun b13 => ((h_In_awaits b13 (S.2.1 813 2) S).bind fun q17 => (if (q17 : Int32) = 0 then (some 8) else (some 0))))))
set_option maxHeartbeats 4000000 in
set_option maxRecDepth 100000 in
theorem c_De_judgeConfirmation  (S : hS) (h0 : am_H) (hR : RH S h0)  (q : Int32) (hd : h_De_judgeConfirmation  S = some q) : am_Me am_Pr none 2 49 0 0 146 [.ref 20, .ref 2] h0 (am_is (some (.int q)) h0) := by
  refine am_enter (d := hd_De_judgeConfirmation) rfl (by decide +kernel) (Nat.le_of_ble_eq_true rfl) ?_
  show am_S _ _ _ _ _ _ _ (0, [some (.ref 20), some (.ref 2), none], [], h0, 0, 0) _
  unfold h_De_judgeConfirmation at hd
  refine am_steps ok_De_judgeConfirmation 1 (x' := (1, [some (.ref 20), some (.ref 2), none], [.ref 20], h0, 0, 0)) rfl (Nat.le_of_ble_eq_true rfl) (Nat.le_of_ble_eq_true rfl) ?_
  refine hr_get ok_De_judgeConfirmation rfl hR (kd := 5) (hs_k hR (a := 20) rfl) rfl (Nat.le_of_ble_eq_true rfl) (Nat.le_of_ble_eq_true rfl) (v := .ref 16) (congrArg va_rf (hR.2.2.2.2.1 (501, 20, 16) (by decide))) (pc' := 4) rfl (Nat.le_of_ble_eq_true rfl) (Nat.le_of_ble_eq_true rfl) ?_
  refine am_steps ok_De_judgeConfirmation 1 (x' := (5, [some (.ref 20), some (.ref 2), none], [.ref 2, .ref 16], h0, 0, 0)) rfl (Nat.le_of_ble_eq_true rfl) (Nat.le_of_ble_eq_true rfl) ?_
  refine hr_get ok_De_judgeConfirmation rfl hR (kd := 8) (hs_k hR (a := 2) rfl) rfl (Nat.le_of_ble_eq_true rfl) (Nat.le_of_ble_eq_true rfl) (v := .ref 5) (congrArg va_rf (hR.2.2.2.2.1 (809, 2, 5) (by decide))) (pc' := 8) rfl (Nat.le_of_ble_eq_true rfl) (Nat.le_of_ble_eq_true rfl) ?_
  refine am_steps ok_De_judgeConfirmation 1 (x' := (9, [some (.ref 20), some (.ref 2), none], [.int 0, .ref 5, .ref 16], h0, 0, 0)) rfl (Nat.le_of_ble_eq_true rfl) (Nat.le_of_ble_eq_true rfl) ?_
  obtain ⟨j1, hx2, hd3⟩ := Option.bind_eq_some_iff.mp hd; clear hd; have hd := hd3; clear hd3
  refine hr_iald ok_De_judgeConfirmation rfl hR (hs_k hR (a := 5) rfl) (hs_ln hR rfl) hx2 (pc' := 10) rfl (Nat.le_of_ble_eq_true rfl) (Nat.le_of_ble_eq_true rfl) ?_
  refine am_steps ok_De_judgeConfirmation 1 (x' := (11, [some (.ref 20), some (.ref 2), none], [.ref 2, .int (S.2.2.2.2.1 5 j1), .ref 16], h0, 0, 0)) rfl (Nat.le_of_ble_eq_true rfl) (Nat.le_of_ble_eq_true rfl) ?_
  refine hr_get ok_De_judgeConfirmation rfl hR (kd := 8) (hs_k hR (a := 2) rfl) rfl (Nat.le_of_ble_eq_true rfl) (Nat.le_of_ble_eq_true rfl) (v := .long (S.2.2.1 818 2)) rfl (pc' := 14) rfl (Nat.le_of_ble_eq_true rfl) (Nat.le_of_ble_eq_true rfl) ?_
  obtain ⟨q4, hq5, hd6⟩ := Option.bind_eq_some_iff.mp hd; clear hd; have hd := hd6; clear hd6
  refine ar_cv ok_De_judgeConfirmation hk_Qu_find rfl rfl (As := [.int (S.2.2.2.2.1 5 j1), .long (S.2.2.1 818 2)]) (ad := 16) (rest := []) rfl rfl (hR.ob (hs_k hR (a := 16) rfl) (Nat.le_of_ble_eq_true rfl)) (Nat.le_of_ble_eq_true rfl) (c_Qu_find (S.2.2.2.2.1 5 j1) (S.2.2.1 818 2) S h0 hR  q4 hq5) (Nat.le_of_ble_eq_true rfl) (Nat.le_of_ble_eq_true rfl) (Nat.le_of_ble_eq_true rfl) (Nat.le_of_ble_eq_true rfl) (pc' := 17) rfl (fun r7 h9 z8 => ?_)
  obtain ⟨rfl, z11, hk10⟩ := z8; rw [z11]
  show am_S _ _ _ _ _ _ _ (17, [some (.ref 20), some (.ref 2), none], [va_rf q4], h0, 0, 0) _
  refine hr_astoren ok_De_judgeConfirmation rfl (Nat.le_of_ble_eq_true rfl) (lo' := [some (.ref 20), some (.ref 2), some (va_rf q4)]) rfl (pc' := 18) rfl (Nat.le_of_ble_eq_true rfl) (Nat.le_of_ble_eq_true rfl) ?_
  refine hr_aloadn ok_De_judgeConfirmation rfl rfl (pc' := 19) rfl (Nat.le_of_ble_eq_true rfl) (Nat.le_of_ble_eq_true rfl) ?_
  refine hr_ifnon ok_De_judgeConfirmation rfl (pc' := 22) rfl (Nat.le_of_ble_eq_true rfl) (Nat.le_of_ble_eq_true rfl) ?_
  refine am_if (fun hc12 => ?_) (fun hc12 => ?_)
  · rw [if_pos hc12] at hd
    refine am_steps ok_De_judgeConfirmation 1 (x' := (24, [some (.ref 20), some (.ref 2), some (va_rf q4)], [.int 11], h0, 0, 0)) rfl (Nat.le_of_ble_eq_true rfl) (Nat.le_of_ble_eq_true rfl) ?_
    cases hd; exact am_ret ok_De_judgeConfirmation rfl (Nat.le_of_ble_eq_true rfl) (Nat.le_of_ble_eq_true rfl) ⟨rfl, rfl⟩
  · rw [if_neg hc12] at hd
    obtain ⟨b13, hb14, hd15⟩ := Option.bind_eq_some_iff.mp hd; clear hd; have hd := hd15; clear hd15
    have hk16 := hk10 b13 hb14
    rw [hb14]
    show am_S _ _ _ _ _ _ _ (25, [some (.ref 20), some (.ref 2), some (.ref b13)], [], h0, 0, 0) _
    refine am_steps ok_De_judgeConfirmation 2 (x' := (27, [some (.ref 20), some (.ref 2), some (.ref b13)], [.ref 2, .ref b13], h0, 0, 0)) rfl (Nat.le_of_ble_eq_true rfl) (Nat.le_of_ble_eq_true rfl) ?_
    refine hr_get ok_De_judgeConfirmation rfl hR (kd := 8) (hs_k hR (a := 2) rfl) rfl (Nat.le_of_ble_eq_true rfl) (Nat.le_of_ble_eq_true rfl) (v := .int (S.2.1 813 2)) rfl (pc' := 30) rfl (Nat.le_of_ble_eq_true rfl) (Nat.le_of_ble_eq_true rfl) ?_
    obtain ⟨q17, hq18, hd19⟩ := Option.bind_eq_some_iff.mp hd; clear hd; have hd := hd19; clear hd19
    refine ar_cv ok_De_judgeConfirmation hk_In_awaits rfl rfl (As := [.int (S.2.1 813 2)]) (ad := b13) (rest := []) rfl rfl (hR.ob hk16 (Nat.le_of_ble_eq_true rfl)) (Nat.le_of_ble_eq_true rfl) (c_In_awaits b13 (S.2.1 813 2) S h0 hR hk16 q17 hq18) (Nat.le_of_ble_eq_true rfl) (Nat.le_of_ble_eq_true rfl) (Nat.le_of_ble_eq_true rfl) (Nat.le_of_ble_eq_true rfl) (pc' := 33) rfl (fun r20 h22 z21 => ?_)
    obtain ⟨rfl, z24⟩ := z21; rw [z24]
    show am_S _ _ _ _ _ _ _ (33, [some (.ref 20), some (.ref 2), some (.ref b13)], [.int q17], h0, 0, 0) _
    refine am_steps ok_De_judgeConfirmation 1 (x' := (if (q17 : Int32) = 0 then 40 else 36, [some (.ref 20), some (.ref 2), some (.ref b13)], [], h0, 0, 0)) rfl (Nat.le_of_ble_eq_true rfl) (Nat.le_of_ble_eq_true rfl) ?_
    refine am_if (fun hc25 => ?_) (fun hc25 => ?_)
    · rw [if_pos hc25] at hd
      refine am_steps ok_De_judgeConfirmation 1 (x' := (42, [some (.ref 20), some (.ref 2), some (.ref b13)], [.int 8], h0, 0, 0)) rfl (Nat.le_of_ble_eq_true rfl) (Nat.le_of_ble_eq_true rfl) ?_
      cases hd; exact am_ret ok_De_judgeConfirmation rfl (Nat.le_of_ble_eq_true rfl) (Nat.le_of_ble_eq_true rfl) ⟨rfl, rfl⟩
    · rw [if_neg hc25] at hd
      refine am_steps ok_De_judgeConfirmation 2 (x' := (42, [some (.ref 20), some (.ref 2), some (.ref b13)], [.int 0], h0, 0, 0)) rfl (Nat.le_of_ble_eq_true rfl) (Nat.le_of_ble_eq_true rfl) ?_
      cases hd; exact am_ret ok_De_judgeConfirmation rfl (Nat.le_of_ble_eq_true rfl) (Nat.le_of_ble_eq_true rfl) ⟨rfl, rfl⟩
def hl_Bo_findRoom_13 : Nat → Int32 → Option Nat → Int32 → hS → Option (Option Nat)
  | 0, _, _, _, _ => none
  | fu + 1, v2, v3, v4, s => (v3).bind fun b8 => ((h_AL13_size b8 s).bind fun q12 => (if (q12 : Int32) ≤ v4 then (some none) else ((h_AL13_get b8 v4 s).bind fun q21 => ((q21).bind fun b29 => (if ¬ ((s.2.1 1000 b29) : Int32) = v2 then (hl_Bo_findRoom_13 fu v2 v3 (v4 + 1) s) else ((h_AL13_get b8 v4 s).bind fun q34 => ((q34).bind fun b42 => (some (some b42)))))))))
set_option maxHeartbeats 4000000 in
set_option maxRecDepth 100000 in
theorem Lc_Bo_findRoom_13 (s : hS) (h : am_H) (hR : RH s h) : ∀ (fu : Nat) (v2 : Int32) (v3 : Option Nat) (v4 : Int32), (∀ b, v3 = some b → hK s.1 b 13) → ∀ (q : Option Nat), hl_Bo_findRoom_13 fu v2 v3 v4 s = some q → am_S am_Pr none 3 64 0 0 115 (13, [none, none, some (.int v2), some (va_rf v3), some (.int v4)], [], h, 0, 0) (hPo (va_rf q) q 10 s.1 h) := by
  intro fu
  induction fu with
  | zero => intro v2 v3 v4 hv3 q hd; cases hd
  | succ fu ih =>
    intro v2 v3 v4 hv3 q hd
    unfold hl_Bo_findRoom_13 at hd
    refine am_steps ok_Bo_findRoom 1 (x' := (15, [none, none, some (.int v2), some (va_rf v3), some (.int v4)], [.int v4], h, 0, 0)) rfl (Nat.le_of_ble_eq_true rfl) (Nat.le_of_ble_eq_true rfl) ?_
    refine hr_aloadn ok_Bo_findRoom rfl rfl (pc' := 16) rfl (Nat.le_of_ble_eq_true rfl) (Nat.le_of_ble_eq_true rfl) ?_
    obtain ⟨b8, hb9, hd10⟩ := Option.bind_eq_some_iff.mp hd; clear hd; have hd := hd10; clear hd10
    have hk11 := hv3 b8 hb9
    rw [hb9]
    show am_S _ _ _ _ _ _ _ (16, [none, none, some (.int v2), some (.ref b8), some (.int v4)], [.ref b8, .int v4], h, 0, 0) _
    obtain ⟨q12, hq13, hd14⟩ := Option.bind_eq_some_iff.mp hd; clear hd; have hd := hd14; clear hd14
    refine ar_cv ok_Bo_findRoom hk_AL_size rfl rfl (As := []) (ad := b8) (rest := [.int v4]) rfl rfl (hR.ob hk11 (Nat.le_of_ble_eq_true rfl)) (Nat.le_of_ble_eq_true rfl) (c_AL13_size b8 s h hR hk11 q12 hq13) (Nat.le_of_ble_eq_true rfl) (Nat.le_of_ble_eq_true rfl) (Nat.le_of_ble_eq_true rfl) (Nat.le_of_ble_eq_true rfl) (pc' := 19) rfl (fun r15 h17 z16 => ?_)
    obtain ⟨rfl, z19⟩ := z16; rw [z19]
    show am_S _ _ _ _ _ _ _ (19, [none, none, some (.int v2), some (.ref b8), some (.int v4)], [.int q12, .int v4], h, 0, 0) _
    refine am_steps ok_Bo_findRoom 1 (x' := (if (q12 : Int32) ≤ v4 then 54 else 22, [none, none, some (.int v2), some (.ref b8), some (.int v4)], [], h, 0, 0)) rfl (Nat.le_of_ble_eq_true rfl) (Nat.le_of_ble_eq_true rfl) ?_
    refine am_if (fun hc20 => ?_) (fun hc20 => ?_)
    · rw [if_pos hc20] at hd
      refine am_steps ok_Bo_findRoom 1 (x' := (55, [none, none, some (.int v2), some (.ref b8), some (.int v4)], [.null], h, 0, 0)) rfl (Nat.le_of_ble_eq_true rfl) (Nat.le_of_ble_eq_true rfl) ?_
      cases hd; exact am_ret ok_Bo_findRoom rfl (Nat.le_of_ble_eq_true rfl) (Nat.le_of_ble_eq_true rfl) ⟨rfl, rfl, (fun _ hz => nomatch hz)⟩
    · rw [if_neg hc20] at hd
      refine am_steps ok_Bo_findRoom 2 (x' := (25, [none, none, some (.int v2), some (.ref b8), some (.int v4)], [.int v4, .ref b8], h, 0, 0)) rfl (Nat.le_of_ble_eq_true rfl) (Nat.le_of_ble_eq_true rfl) ?_
      obtain ⟨q21, hq22, hd23⟩ := Option.bind_eq_some_iff.mp hd; clear hd; have hd := hd23; clear hd23
      refine ar_cv ok_Bo_findRoom hk_AL_get rfl rfl (As := [.int v4]) (ad := b8) (rest := []) rfl rfl (hR.ob hk11 (Nat.le_of_ble_eq_true rfl)) (Nat.le_of_ble_eq_true rfl) (c_AL13_get b8 v4 s h hR hk11 q21 hq22) (Nat.le_of_ble_eq_true rfl) (Nat.le_of_ble_eq_true rfl) (Nat.le_of_ble_eq_true rfl) (Nat.le_of_ble_eq_true rfl) (pc' := 28) rfl (fun r24 h26 z25 => ?_)
      obtain ⟨rfl, z28, hk27⟩ := z25; rw [z28]
      show am_S _ _ _ _ _ _ _ (28, [none, none, some (.int v2), some (.ref b8), some (.int v4)], [va_rf q21], h, 0, 0) _
      obtain ⟨b29, hb30, hd31⟩ := Option.bind_eq_some_iff.mp hd; clear hd; have hd := hd31; clear hd31
      have hk32 := hk27 b29 hb30
      rw [hb30]
      show am_S _ _ _ _ _ _ _ (28, [none, none, some (.int v2), some (.ref b8), some (.int v4)], [.ref b29], h, 0, 0) _
      refine ao_cast (d0 := hd_Bo_findRoom) rfl (x := 48) (a := 719) (b := 10) (by decide +kernel) rfl (by decide +kernel) (hR.ob hk32 (Nat.le_of_ble_eq_true rfl)) (pc' := 31) rfl ?_
      refine hr_get ok_Bo_findRoom rfl hR (kd := 10) hk32 rfl (Nat.le_of_ble_eq_true rfl) (Nat.le_of_ble_eq_true rfl) (v := .int (s.2.1 1000 b29)) rfl (pc' := 34) rfl (Nat.le_of_ble_eq_true rfl) (Nat.le_of_ble_eq_true rfl) ?_
      refine am_steps ok_Bo_findRoom 2 (x' := (if ¬ ((s.2.1 1000 b29) : Int32) = v2 then 48 else 38, [none, none, some (.int v2), some (.ref b8), some (.int v4)], [], h, 0, 0)) rfl (Nat.le_of_ble_eq_true rfl) (Nat.le_of_ble_eq_true rfl) ?_
      refine am_if (fun hc33 => ?_) (fun hc33 => ?_)
      · rw [if_pos hc33] at hd
        refine am_steps ok_Bo_findRoom 2 (x' := (13, [none, none, some (.int v2), some (.ref b8), some (.int (v4 + 1))], [], h, 0, 0)) rfl (Nat.le_of_ble_eq_true rfl) (Nat.le_of_ble_eq_true rfl) ?_
        rw [show Value.ref b8 = va_rf v3 from (congrArg va_rf hb9).symm]
        exact ih v2 v3 (v4 + 1) hv3 q hd
      · rw [if_neg hc33] at hd
        refine am_steps ok_Bo_findRoom 2 (x' := (41, [none, none, some (.int v2), some (.ref b8), some (.int v4)], [.int v4, .ref b8], h, 0, 0)) rfl (Nat.le_of_ble_eq_true rfl) (Nat.le_of_ble_eq_true rfl) ?_
        obtain ⟨q34, hq35, hd36⟩ := Option.bind_eq_some_iff.mp hd; clear hd; have hd := hd36; clear hd36
        refine ar_cv ok_Bo_findRoom hk_AL_get rfl rfl (As := [.int v4]) (ad := b8) (rest := []) rfl rfl (hR.ob hk11 (Nat.le_of_ble_eq_true rfl)) (Nat.le_of_ble_eq_true rfl) (c_AL13_get b8 v4 s h hR hk11 q34 hq35) (Nat.le_of_ble_eq_true rfl) (Nat.le_of_ble_eq_true rfl) (Nat.le_of_ble_eq_true rfl) (Nat.le_of_ble_eq_true rfl) (pc' := 44) rfl (fun r37 h39 z38 => ?_)
        obtain ⟨rfl, z41, hk40⟩ := z38; rw [z41]
        show am_S _ _ _ _ _ _ _ (44, [none, none, some (.int v2), some (.ref b8), some (.int v4)], [va_rf q34], h, 0, 0) _
        obtain ⟨b42, hb43, hd44⟩ := Option.bind_eq_some_iff.mp hd; clear hd; have hd := hd44; clear hd44
        have hk45 := hk40 b42 hb43
        rw [hb43]
        show am_S _ _ _ _ _ _ _ (44, [none, none, some (.int v2), some (.ref b8), some (.int v4)], [.ref b42], h, 0, 0) _
        refine ao_cast (d0 := hd_Bo_findRoom) rfl (x := 48) (a := 719) (b := 10) (by decide +kernel) rfl (by decide +kernel) (hR.ob hk45 (Nat.le_of_ble_eq_true rfl)) (pc' := 47) rfl ?_
        cases hd; exact am_ret ok_Bo_findRoom rfl (Nat.le_of_ble_eq_true rfl) (Nat.le_of_ble_eq_true rfl) ⟨rfl, rfl, (fun _ hz => by cases hz; exact hk45)⟩
def h_Bo_findRoom (a : Int32) (b : Int32) (S : hS) : Option (Option Nat) := (am_ix a 256).bind fun j1 => (((S.2.2.2.2.2.2 11 j1)).bind fun b4 => (hl_Bo_findRoom_13 100000 b (S.2.2.2.1 903 b4) 0 S))
set_option maxHeartbeats 4000000 in
set_option maxRecDepth 100000 in
theorem c_Bo_findRoom (a : Int32) (b : Int32) (S : hS) (h0 : am_H) (hR : RH S h0)  (q : Option Nat) (hd : h_Bo_findRoom a b S = some q) : am_Me am_Pr none 3 64 0 0 115 [.ref 10, .int a, .int b] h0 (hPo (va_rf q) q 10 S.1 h0) := by
  refine am_enter (d := hd_Bo_findRoom) rfl (by decide +kernel) (Nat.le_of_ble_eq_true rfl) ?_
  show am_S _ _ _ _ _ _ _ (0, [some (.ref 10), some (.int a), some (.int b), none, none], [], h0, 0, 0) _
  unfold h_Bo_findRoom at hd
  refine am_steps ok_Bo_findRoom 1 (x' := (1, [some (.ref 10), some (.int a), some (.int b), none, none], [.ref 10], h0, 0, 0)) rfl (Nat.le_of_ble_eq_true rfl) (Nat.le_of_ble_eq_true rfl) ?_
  refine hr_get ok_Bo_findRoom rfl hR (kd := 4) (hs_k hR (a := 10) rfl) rfl (Nat.le_of_ble_eq_true rfl) (Nat.le_of_ble_eq_true rfl) (v := .ref 11) (congrArg va_rf (hR.2.2.2.2.1 (400, 10, 11) (by decide))) (pc' := 4) rfl (Nat.le_of_ble_eq_true rfl) (Nat.le_of_ble_eq_true rfl) ?_
  refine am_steps ok_Bo_findRoom 1 (x' := (5, [some (.ref 10), some (.int a), some (.int b), none, none], [.int a, .ref 11], h0, 0, 0)) rfl (Nat.le_of_ble_eq_true rfl) (Nat.le_of_ble_eq_true rfl) ?_
  obtain ⟨j1, hx2, hd3⟩ := Option.bind_eq_some_iff.mp hd; clear hd; have hd := hd3; clear hd3
  refine hr_aald ok_Bo_findRoom rfl hR (kd := 24) (hs_k hR (a := 11) rfl) (by decide) (hs_ln hR rfl) hx2 (pc' := 6) rfl (Nat.le_of_ble_eq_true rfl) (Nat.le_of_ble_eq_true rfl) ?_
  obtain ⟨b4, hb5, hd6⟩ := Option.bind_eq_some_iff.mp hd; clear hd; have hd := hd6; clear hd6
  have hk7 := (fun b hb => hR.2.2.2.1 _ _ (hK.ln (hs_k hR (a := 11) rfl)) _ b hb) b4 hb5
  rw [hb5]
  show am_S _ _ _ _ _ _ _ (6, [some (.ref 10), some (.int a), some (.int b), none, none], [.ref b4], h0, 0, 0) _
  refine hr_get ok_Bo_findRoom rfl hR (kd := 9) hk7 rfl (Nat.le_of_ble_eq_true rfl) (Nat.le_of_ble_eq_true rfl) (v := va_rf (S.2.2.2.1 903 b4)) rfl (pc' := 9) rfl (Nat.le_of_ble_eq_true rfl) (Nat.le_of_ble_eq_true rfl) ?_
  refine hr_astoren ok_Bo_findRoom rfl (Nat.le_of_ble_eq_true rfl) (lo' := [some (.ref 10), some (.int a), some (.int b), some (va_rf (S.2.2.2.1 903 b4)), none]) rfl (pc' := 10) rfl (Nat.le_of_ble_eq_true rfl) (Nat.le_of_ble_eq_true rfl) ?_
  refine am_steps ok_Bo_findRoom 1 (x' := (11, [some (.ref 10), some (.int a), some (.int b), some (va_rf (S.2.2.2.1 903 b4)), none], [.int 0], h0, 0, 0)) rfl (Nat.le_of_ble_eq_true rfl) (Nat.le_of_ble_eq_true rfl) ?_
  refine hr_p1 ok_Bo_findRoom rfl (y := (13, [some (.ref 10), some (.int a), some (.int b), some (va_rf (S.2.2.2.1 903 b4)), some (.int 0)], [])) (by generalize (S.2.2.2.1 903 b4) = o; cases o <;> rfl) (Nat.le_of_ble_eq_true rfl) (Nat.le_of_ble_eq_true rfl) ?_
  refine am_drop 0 ?_
  refine am_drop 1 ?_
  exact Lc_Bo_findRoom_13 S h0 hR 100000 b (S.2.2.2.1 903 b4) 0 (fun b hb => hR.2.2.1 903 _ b hb) q hd
def h_De_judgeLimit  (S : hS) : Option (Int32) := (am_ix 0 12).bind fun j1 => (if ((S.2.1 813 2) : Int32) = 0 then (some 8) else (if ((S.2.2.2.2.1 5 j1) : Int32) = 0 then (some 8) else (if ¬ ((S.2.2.2.2.1 5 j1) : Int32) = (S.2.1 813 2) then ((h_Bo_findRoom (S.2.1 813 2) (S.2.2.2.2.1 5 j1) S).bind fun q7 => (if q7 = none then ((if q7 = none then (some 0) else ((q7).bind fun b23 => (if ((S.2.1 1002 b23) : Int32) = 0 then (some 0) else (some 1)))).bind fun (u16 : Int32) => (if ¬ (u16 : Int32) = 0 then (some 0) else (if (2000 : Int32) ≤ (S.2.1 405 10) then (some 12) else (some 0)))) else ((q7).bind fun b28 => ((am_ix 0 4).bind fun j32 => (if (0 : Int32) ≤ (lg_cmp (S.2.2.1 1001 b28) (-(S.2.2.2.2.2.1 6 j32))) then ((if ((S.2.1 1002 b28) : Int32) = 0 then (some 0) else (some 1)).bind fun (u36 : Int32) => (if ¬ (u36 : Int32) = 0 then (some 0) else (if (2000 : Int32) ≤ (S.2.1 405 10) then (some 12) else (some 0)))) else (some 9)))))) else (some 8))))
set_option maxHeartbeats 4000000 in
set_option maxRecDepth 100000 in
theorem c_De_judgeLimit  (S : hS) (h0 : am_H) (hR : RH S h0)  (q : Int32) (hd : h_De_judgeLimit  S = some q) : am_Me am_Pr none 4 88 0 0 147 [.ref 20, .ref 2] h0 (am_is (some (.int q)) h0) := by
  refine am_enter (d := hd_De_judgeLimit) rfl (by decide +kernel) (Nat.le_of_ble_eq_true rfl) ?_
  show am_S _ _ _ _ _ _ _ (0, [some (.ref 20), some (.ref 2), none, none, none], [], h0, 0, 0) _
  unfold h_De_judgeLimit at hd
  refine am_steps ok_De_judgeLimit 1 (x' := (1, [some (.ref 20), some (.ref 2), none, none, none], [.ref 2], h0, 0, 0)) rfl (Nat.le_of_ble_eq_true rfl) (Nat.le_of_ble_eq_true rfl) ?_
  refine hr_get ok_De_judgeLimit rfl hR (kd := 8) (hs_k hR (a := 2) rfl) rfl (Nat.le_of_ble_eq_true rfl) (Nat.le_of_ble_eq_true rfl) (v := .ref 5) (congrArg va_rf (hR.2.2.2.2.1 (809, 2, 5) (by decide))) (pc' := 4) rfl (Nat.le_of_ble_eq_true rfl) (Nat.le_of_ble_eq_true rfl) ?_
  refine am_steps ok_De_judgeLimit 1 (x' := (5, [some (.ref 20), some (.ref 2), none, none, none], [.int 0, .ref 5], h0, 0, 0)) rfl (Nat.le_of_ble_eq_true rfl) (Nat.le_of_ble_eq_true rfl) ?_
  obtain ⟨j1, hx2, hd3⟩ := Option.bind_eq_some_iff.mp hd; clear hd; have hd := hd3; clear hd3
  refine hr_iald ok_De_judgeLimit rfl hR (hs_k hR (a := 5) rfl) (hs_ln hR rfl) hx2 (pc' := 6) rfl (Nat.le_of_ble_eq_true rfl) (Nat.le_of_ble_eq_true rfl) ?_
  refine am_steps ok_De_judgeLimit 2 (x' := (8, [some (.ref 20), some (.ref 2), some (.int (S.2.2.2.2.1 5 j1)), none, none], [.ref 2], h0, 0, 0)) rfl (Nat.le_of_ble_eq_true rfl) (Nat.le_of_ble_eq_true rfl) ?_
  refine hr_get ok_De_judgeLimit rfl hR (kd := 8) (hs_k hR (a := 2) rfl) rfl (Nat.le_of_ble_eq_true rfl) (Nat.le_of_ble_eq_true rfl) (v := .int (S.2.1 813 2)) rfl (pc' := 11) rfl (Nat.le_of_ble_eq_true rfl) (Nat.le_of_ble_eq_true rfl) ?_
  refine am_steps ok_De_judgeLimit 1 (x' := (if ((S.2.1 813 2) : Int32) = 0 then 26 else 14, [some (.ref 20), some (.ref 2), some (.int (S.2.2.2.2.1 5 j1)), none, none], [], h0, 0, 0)) rfl (Nat.le_of_ble_eq_true rfl) (Nat.le_of_ble_eq_true rfl) ?_
  refine am_if (fun hc4 => ?_) (fun hc4 => ?_)
  · rw [if_pos hc4] at hd
    refine am_steps ok_De_judgeLimit 1 (x' := (28, [some (.ref 20), some (.ref 2), some (.int (S.2.2.2.2.1 5 j1)), none, none], [.int 8], h0, 0, 0)) rfl (Nat.le_of_ble_eq_true rfl) (Nat.le_of_ble_eq_true rfl) ?_
    cases hd; exact am_ret ok_De_judgeLimit rfl (Nat.le_of_ble_eq_true rfl) (Nat.le_of_ble_eq_true rfl) ⟨rfl, rfl⟩
  · rw [if_neg hc4] at hd
    refine am_steps ok_De_judgeLimit 2 (x' := (if ((S.2.2.2.2.1 5 j1) : Int32) = 0 then 26 else 18, [some (.ref 20), some (.ref 2), some (.int (S.2.2.2.2.1 5 j1)), none, none], [], h0, 0, 0)) rfl (Nat.le_of_ble_eq_true rfl) (Nat.le_of_ble_eq_true rfl) ?_
    refine am_if (fun hc5 => ?_) (fun hc5 => ?_)
    · rw [if_pos hc5] at hd
      refine am_steps ok_De_judgeLimit 1 (x' := (28, [some (.ref 20), some (.ref 2), some (.int (S.2.2.2.2.1 5 j1)), none, none], [.int 8], h0, 0, 0)) rfl (Nat.le_of_ble_eq_true rfl) (Nat.le_of_ble_eq_true rfl) ?_
      cases hd; exact am_ret ok_De_judgeLimit rfl (Nat.le_of_ble_eq_true rfl) (Nat.le_of_ble_eq_true rfl) ⟨rfl, rfl⟩
    · rw [if_neg hc5] at hd
      refine am_steps ok_De_judgeLimit 2 (x' := (20, [some (.ref 20), some (.ref 2), some (.int (S.2.2.2.2.1 5 j1)), none, none], [.ref 2, .int (S.2.2.2.2.1 5 j1)], h0, 0, 0)) rfl (Nat.le_of_ble_eq_true rfl) (Nat.le_of_ble_eq_true rfl) ?_
      refine hr_get ok_De_judgeLimit rfl hR (kd := 8) (hs_k hR (a := 2) rfl) rfl (Nat.le_of_ble_eq_true rfl) (Nat.le_of_ble_eq_true rfl) (v := .int (S.2.1 813 2)) rfl (pc' := 23) rfl (Nat.le_of_ble_eq_true rfl) (Nat.le_of_ble_eq_true rfl) ?_
      refine am_steps ok_De_judgeLimit 1 (x' := (if ¬ ((S.2.2.2.2.1 5 j1) : Int32) = (S.2.1 813 2) then 29 else 26, [some (.ref 20), some (.ref 2), some (.int (S.2.2.2.2.1 5 j1)), none, none], [], h0, 0, 0)) rfl (Nat.le_of_ble_eq_true rfl) (Nat.le_of_ble_eq_true rfl) ?_
      refine am_if (fun hc6 => ?_) (fun hc6 => ?_)
      · rw [if_pos hc6] at hd
        refine am_steps ok_De_judgeLimit 1 (x' := (30, [some (.ref 20), some (.ref 2), some (.int (S.2.2.2.2.1 5 j1)), none, none], [.ref 20], h0, 0, 0)) rfl (Nat.le_of_ble_eq_true rfl) (Nat.le_of_ble_eq_true rfl) ?_
        refine hr_get ok_De_judgeLimit rfl hR (kd := 5) (hs_k hR (a := 20) rfl) rfl (Nat.le_of_ble_eq_true rfl) (Nat.le_of_ble_eq_true rfl) (v := .ref 10) (congrArg va_rf (hR.2.2.2.2.1 (500, 20, 10) (by decide))) (pc' := 33) rfl (Nat.le_of_ble_eq_true rfl) (Nat.le_of_ble_eq_true rfl) ?_
        refine am_steps ok_De_judgeLimit 1 (x' := (34, [some (.ref 20), some (.ref 2), some (.int (S.2.2.2.2.1 5 j1)), none, none], [.ref 2, .ref 10], h0, 0, 0)) rfl (Nat.le_of_ble_eq_true rfl) (Nat.le_of_ble_eq_true rfl) ?_
        refine hr_get ok_De_judgeLimit rfl hR (kd := 8) (hs_k hR (a := 2) rfl) rfl (Nat.le_of_ble_eq_true rfl) (Nat.le_of_ble_eq_true rfl) (v := .int (S.2.1 813 2)) rfl (pc' := 37) rfl (Nat.le_of_ble_eq_true rfl) (Nat.le_of_ble_eq_true rfl) ?_
        refine am_steps ok_De_judgeLimit 1 (x' := (38, [some (.ref 20), some (.ref 2), some (.int (S.2.2.2.2.1 5 j1)), none, none], [.int (S.2.2.2.2.1 5 j1), .int (S.2.1 813 2), .ref 10], h0, 0, 0)) rfl (Nat.le_of_ble_eq_true rfl) (Nat.le_of_ble_eq_true rfl) ?_
        obtain ⟨q7, hq8, hd9⟩ := Option.bind_eq_some_iff.mp hd; clear hd; have hd := hd9; clear hd9
        refine ar_cv ok_De_judgeLimit hk_Bo_findRoom rfl rfl (As := [.int (S.2.1 813 2), .int (S.2.2.2.2.1 5 j1)]) (ad := 10) (rest := []) rfl rfl (hR.ob (hs_k hR (a := 10) rfl) (Nat.le_of_ble_eq_true rfl)) (Nat.le_of_ble_eq_true rfl) (c_Bo_findRoom (S.2.1 813 2) (S.2.2.2.2.1 5 j1) S h0 hR  q7 hq8) (Nat.le_of_ble_eq_true rfl) (Nat.le_of_ble_eq_true rfl) (Nat.le_of_ble_eq_true rfl) (Nat.le_of_ble_eq_true rfl) (pc' := 41) rfl (fun r10 h12 z11 => ?_)
        obtain ⟨rfl, z14, hk13⟩ := z11; rw [z14]
        show am_S _ _ _ _ _ _ _ (41, [some (.ref 20), some (.ref 2), some (.int (S.2.2.2.2.1 5 j1)), none, none], [va_rf q7], h0, 0, 0) _
        refine hr_astoren ok_De_judgeLimit rfl (Nat.le_of_ble_eq_true rfl) (lo' := [some (.ref 20), some (.ref 2), some (.int (S.2.2.2.2.1 5 j1)), some (va_rf q7), none]) rfl (pc' := 42) rfl (Nat.le_of_ble_eq_true rfl) (Nat.le_of_ble_eq_true rfl) ?_
        refine hr_aloadn ok_De_judgeLimit rfl rfl (pc' := 43) rfl (Nat.le_of_ble_eq_true rfl) (Nat.le_of_ble_eq_true rfl) ?_
        refine hr_ifnull ok_De_judgeLimit rfl (pc' := 46) rfl (Nat.le_of_ble_eq_true rfl) (Nat.le_of_ble_eq_true rfl) ?_
        refine am_if (fun hc15 => ?_) (fun hc15 => ?_)
        · rw [if_pos hc15] at hd
          refine hr_aloadn ok_De_judgeLimit rfl rfl (pc' := 65) rfl (Nat.le_of_ble_eq_true rfl) (Nat.le_of_ble_eq_true rfl) ?_
          refine hr_ifnull ok_De_judgeLimit rfl (pc' := 68) rfl (Nat.le_of_ble_eq_true rfl) (Nat.le_of_ble_eq_true rfl) ?_
          obtain ⟨u16, hA18, hB19⟩ := Option.bind_eq_some_iff.mp hd; clear hd
          have K17 : am_S am_Pr none 4 88 0 0 147 (80, [some (.ref 20), none, none, none, none], [.int u16], h0, 0, 0) (am_is (some (.int q)) h0) := by
            have hd := hB19
            refine am_steps ok_De_judgeLimit 3 (x' := (if ¬ (u16 : Int32) = 0 then 100 else 87, [some (.ref 20), none, none, none, some (.int u16)], [], h0, 0, 0)) rfl (Nat.le_of_ble_eq_true rfl) (Nat.le_of_ble_eq_true rfl) ?_
            refine am_if (fun hc20 => ?_) (fun hc20 => ?_)
            · rw [if_pos hc20] at hd
              refine am_steps ok_De_judgeLimit 2 (x' := (106, [some (.ref 20), none, none, none, some (.int u16)], [.int 0], h0, 0, 0)) rfl (Nat.le_of_ble_eq_true rfl) (Nat.le_of_ble_eq_true rfl) ?_
              cases hd; exact am_ret ok_De_judgeLimit rfl (Nat.le_of_ble_eq_true rfl) (Nat.le_of_ble_eq_true rfl) ⟨rfl, rfl⟩
            · rw [if_neg hc20] at hd
              refine am_steps ok_De_judgeLimit 1 (x' := (88, [some (.ref 20), none, none, none, some (.int u16)], [.ref 20], h0, 0, 0)) rfl (Nat.le_of_ble_eq_true rfl) (Nat.le_of_ble_eq_true rfl) ?_
              refine hr_get ok_De_judgeLimit rfl hR (kd := 5) (hs_k hR (a := 20) rfl) rfl (Nat.le_of_ble_eq_true rfl) (Nat.le_of_ble_eq_true rfl) (v := .ref 10) (congrArg va_rf (hR.2.2.2.2.1 (500, 20, 10) (by decide))) (pc' := 91) rfl (Nat.le_of_ble_eq_true rfl) (Nat.le_of_ble_eq_true rfl) ?_
              refine hr_get ok_De_judgeLimit rfl hR (kd := 4) (hs_k hR (a := 10) rfl) rfl (Nat.le_of_ble_eq_true rfl) (Nat.le_of_ble_eq_true rfl) (v := .int (S.2.1 405 10)) rfl (pc' := 94) rfl (Nat.le_of_ble_eq_true rfl) (Nat.le_of_ble_eq_true rfl) ?_
              refine am_steps ok_De_judgeLimit 2 (x' := (if (2000 : Int32) ≤ (S.2.1 405 10) then 104 else 100, [some (.ref 20), none, none, none, some (.int u16)], [], h0, 0, 0)) rfl (Nat.le_of_ble_eq_true rfl) (Nat.le_of_ble_eq_true rfl) ?_
              refine am_if (fun hc21 => ?_) (fun hc21 => ?_)
              · rw [if_pos hc21] at hd
                refine am_steps ok_De_judgeLimit 1 (x' := (106, [some (.ref 20), none, none, none, some (.int u16)], [.int 12], h0, 0, 0)) rfl (Nat.le_of_ble_eq_true rfl) (Nat.le_of_ble_eq_true rfl) ?_
                cases hd; exact am_ret ok_De_judgeLimit rfl (Nat.le_of_ble_eq_true rfl) (Nat.le_of_ble_eq_true rfl) ⟨rfl, rfl⟩
              · rw [if_neg hc21] at hd
                refine am_steps ok_De_judgeLimit 2 (x' := (106, [some (.ref 20), none, none, none, some (.int u16)], [.int 0], h0, 0, 0)) rfl (Nat.le_of_ble_eq_true rfl) (Nat.le_of_ble_eq_true rfl) ?_
                cases hd; exact am_ret ok_De_judgeLimit rfl (Nat.le_of_ble_eq_true rfl) (Nat.le_of_ble_eq_true rfl) ⟨rfl, rfl⟩
          clear hB19; have hd := hA18; clear hA18
          refine am_if (fun hc22 => ?_) (fun hc22 => ?_)
          · rw [if_pos hc22] at hd
            refine am_steps ok_De_judgeLimit 1 (x' := (80, [some (.ref 20), some (.ref 2), some (.int (S.2.2.2.2.1 5 j1)), some (va_rf q7), none], [.int 0], h0, 0, 0)) rfl (Nat.le_of_ble_eq_true rfl) (Nat.le_of_ble_eq_true rfl) ?_
            refine am_drop 1 ?_
            refine am_drop 2 ?_
            refine am_drop 3 ?_
            cases hd; exact K17 
          · rw [if_neg hc22] at hd
            obtain ⟨b23, hb24, hd25⟩ := Option.bind_eq_some_iff.mp hd; clear hd; have hd := hd25; clear hd25
            have hk26 := hk13 b23 hb24
            rw [hb24]
            show am_S _ _ _ _ _ _ _ (68, [some (.ref 20), some (.ref 2), some (.int (S.2.2.2.2.1 5 j1)), some (.ref b23), none], [], h0, 0, 0) _
            refine am_steps ok_De_judgeLimit 1 (x' := (69, [some (.ref 20), some (.ref 2), some (.int (S.2.2.2.2.1 5 j1)), some (.ref b23), none], [.ref b23], h0, 0, 0)) rfl (Nat.le_of_ble_eq_true rfl) (Nat.le_of_ble_eq_true rfl) ?_
            refine hr_get ok_De_judgeLimit rfl hR (kd := 10) hk26 rfl (Nat.le_of_ble_eq_true rfl) (Nat.le_of_ble_eq_true rfl) (v := .int (S.2.1 1002 b23)) rfl (pc' := 72) rfl (Nat.le_of_ble_eq_true rfl) (Nat.le_of_ble_eq_true rfl) ?_
            refine am_steps ok_De_judgeLimit 1 (x' := (if ((S.2.1 1002 b23) : Int32) = 0 then 79 else 75, [some (.ref 20), some (.ref 2), some (.int (S.2.2.2.2.1 5 j1)), some (.ref b23), none], [], h0, 0, 0)) rfl (Nat.le_of_ble_eq_true rfl) (Nat.le_of_ble_eq_true rfl) ?_
            refine am_if (fun hc27 => ?_) (fun hc27 => ?_)
            · rw [if_pos hc27] at hd
              refine am_steps ok_De_judgeLimit 1 (x' := (80, [some (.ref 20), some (.ref 2), some (.int (S.2.2.2.2.1 5 j1)), some (.ref b23), none], [.int 0], h0, 0, 0)) rfl (Nat.le_of_ble_eq_true rfl) (Nat.le_of_ble_eq_true rfl) ?_
              refine am_drop 1 ?_
              refine am_drop 2 ?_
              refine am_drop 3 ?_
              cases hd; exact K17 
            · rw [if_neg hc27] at hd
              refine am_steps ok_De_judgeLimit 2 (x' := (80, [some (.ref 20), some (.ref 2), some (.int (S.2.2.2.2.1 5 j1)), some (.ref b23), none], [.int 1], h0, 0, 0)) rfl (Nat.le_of_ble_eq_true rfl) (Nat.le_of_ble_eq_true rfl) ?_
              refine am_drop 1 ?_
              refine am_drop 2 ?_
              refine am_drop 3 ?_
              cases hd; exact K17 
        · rw [if_neg hc15] at hd
          obtain ⟨b28, hb29, hd30⟩ := Option.bind_eq_some_iff.mp hd; clear hd; have hd := hd30; clear hd30
          have hk31 := hk13 b28 hb29
          rw [hb29]
          show am_S _ _ _ _ _ _ _ (46, [some (.ref 20), some (.ref 2), some (.int (S.2.2.2.2.1 5 j1)), some (.ref b28), none], [], h0, 0, 0) _
          refine am_steps ok_De_judgeLimit 1 (x' := (47, [some (.ref 20), some (.ref 2), some (.int (S.2.2.2.2.1 5 j1)), some (.ref b28), none], [.ref b28], h0, 0, 0)) rfl (Nat.le_of_ble_eq_true rfl) (Nat.le_of_ble_eq_true rfl) ?_
          refine hr_get ok_De_judgeLimit rfl hR (kd := 10) hk31 rfl (Nat.le_of_ble_eq_true rfl) (Nat.le_of_ble_eq_true rfl) (v := .long (S.2.2.1 1001 b28)) rfl (pc' := 50) rfl (Nat.le_of_ble_eq_true rfl) (Nat.le_of_ble_eq_true rfl) ?_
          refine am_steps ok_De_judgeLimit 1 (x' := (51, [some (.ref 20), some (.ref 2), some (.int (S.2.2.2.2.1 5 j1)), some (.ref b28), none], [.ref 2, .long (S.2.2.1 1001 b28)], h0, 0, 0)) rfl (Nat.le_of_ble_eq_true rfl) (Nat.le_of_ble_eq_true rfl) ?_
          refine hr_get ok_De_judgeLimit rfl hR (kd := 8) (hs_k hR (a := 2) rfl) rfl (Nat.le_of_ble_eq_true rfl) (Nat.le_of_ble_eq_true rfl) (v := .ref 6) (congrArg va_rf (hR.2.2.2.2.1 (811, 2, 6) (by decide))) (pc' := 54) rfl (Nat.le_of_ble_eq_true rfl) (Nat.le_of_ble_eq_true rfl) ?_
          refine am_steps ok_De_judgeLimit 1 (x' := (55, [some (.ref 20), some (.ref 2), some (.int (S.2.2.2.2.1 5 j1)), some (.ref b28), none], [.int 0, .ref 6, .long (S.2.2.1 1001 b28)], h0, 0, 0)) rfl (Nat.le_of_ble_eq_true rfl) (Nat.le_of_ble_eq_true rfl) ?_
          obtain ⟨j32, hx33, hd34⟩ := Option.bind_eq_some_iff.mp hd; clear hd; have hd := hd34; clear hd34
          refine hr_lald ok_De_judgeLimit rfl hR (hs_k hR (a := 6) rfl) (hs_ln hR rfl) hx33 (pc' := 56) rfl (Nat.le_of_ble_eq_true rfl) (Nat.le_of_ble_eq_true rfl) ?_
          refine am_steps ok_De_judgeLimit 3 (x' := (if (0 : Int32) ≤ (lg_cmp (S.2.2.1 1001 b28) (-(S.2.2.2.2.2.1 6 j32))) then 64 else 61, [some (.ref 20), some (.ref 2), some (.int (S.2.2.2.2.1 5 j1)), some (.ref b28), none], [], h0, 0, 0)) rfl (Nat.le_of_ble_eq_true rfl) (Nat.le_of_ble_eq_true rfl) ?_
          refine am_if (fun hc35 => ?_) (fun hc35 => ?_)
          · rw [if_pos hc35] at hd
            refine am_steps ok_De_judgeLimit 3 (x' := (69, [some (.ref 20), some (.ref 2), some (.int (S.2.2.2.2.1 5 j1)), some (.ref b28), none], [.ref b28], h0, 0, 0)) rfl (Nat.le_of_ble_eq_true rfl) (Nat.le_of_ble_eq_true rfl) ?_
            refine hr_get ok_De_judgeLimit rfl hR (kd := 10) hk31 rfl (Nat.le_of_ble_eq_true rfl) (Nat.le_of_ble_eq_true rfl) (v := .int (S.2.1 1002 b28)) rfl (pc' := 72) rfl (Nat.le_of_ble_eq_true rfl) (Nat.le_of_ble_eq_true rfl) ?_
            refine am_steps ok_De_judgeLimit 1 (x' := (if ((S.2.1 1002 b28) : Int32) = 0 then 79 else 75, [some (.ref 20), some (.ref 2), some (.int (S.2.2.2.2.1 5 j1)), some (.ref b28), none], [], h0, 0, 0)) rfl (Nat.le_of_ble_eq_true rfl) (Nat.le_of_ble_eq_true rfl) ?_
            obtain ⟨u36, hA38, hB39⟩ := Option.bind_eq_some_iff.mp hd; clear hd
            have K37 : am_S am_Pr none 4 88 0 0 147 (80, [some (.ref 20), none, none, none, none], [.int u36], h0, 0, 0) (am_is (some (.int q)) h0) := by
              have hd := hB39
              refine am_steps ok_De_judgeLimit 3 (x' := (if ¬ (u36 : Int32) = 0 then 100 else 87, [some (.ref 20), none, none, none, some (.int u36)], [], h0, 0, 0)) rfl (Nat.le_of_ble_eq_true rfl) (Nat.le_of_ble_eq_true rfl) ?_
              refine am_if (fun hc40 => ?_) (fun hc40 => ?_)
              · rw [if_pos hc40] at hd
                refine am_steps ok_De_judgeLimit 2 (x' := (106, [some (.ref 20), none, none, none, some (.int u36)], [.int 0], h0, 0, 0)) rfl (Nat.le_of_ble_eq_true rfl) (Nat.le_of_ble_eq_true rfl) ?_
                cases hd; exact am_ret ok_De_judgeLimit rfl (Nat.le_of_ble_eq_true rfl) (Nat.le_of_ble_eq_true rfl) ⟨rfl, rfl⟩
              · rw [if_neg hc40] at hd
                refine am_steps ok_De_judgeLimit 1 (x' := (88, [some (.ref 20), none, none, none, some (.int u36)], [.ref 20], h0, 0, 0)) rfl (Nat.le_of_ble_eq_true rfl) (Nat.le_of_ble_eq_true rfl) ?_
                refine hr_get ok_De_judgeLimit rfl hR (kd := 5) (hs_k hR (a := 20) rfl) rfl (Nat.le_of_ble_eq_true rfl) (Nat.le_of_ble_eq_true rfl) (v := .ref 10) (congrArg va_rf (hR.2.2.2.2.1 (500, 20, 10) (by decide))) (pc' := 91) rfl (Nat.le_of_ble_eq_true rfl) (Nat.le_of_ble_eq_true rfl) ?_
                refine hr_get ok_De_judgeLimit rfl hR (kd := 4) (hs_k hR (a := 10) rfl) rfl (Nat.le_of_ble_eq_true rfl) (Nat.le_of_ble_eq_true rfl) (v := .int (S.2.1 405 10)) rfl (pc' := 94) rfl (Nat.le_of_ble_eq_true rfl) (Nat.le_of_ble_eq_true rfl) ?_
                refine am_steps ok_De_judgeLimit 2 (x' := (if (2000 : Int32) ≤ (S.2.1 405 10) then 104 else 100, [some (.ref 20), none, none, none, some (.int u36)], [], h0, 0, 0)) rfl (Nat.le_of_ble_eq_true rfl) (Nat.le_of_ble_eq_true rfl) ?_
                refine am_if (fun hc41 => ?_) (fun hc41 => ?_)
                · rw [if_pos hc41] at hd
                  refine am_steps ok_De_judgeLimit 1 (x' := (106, [some (.ref 20), none, none, none, some (.int u36)], [.int 12], h0, 0, 0)) rfl (Nat.le_of_ble_eq_true rfl) (Nat.le_of_ble_eq_true rfl) ?_
                  cases hd; exact am_ret ok_De_judgeLimit rfl (Nat.le_of_ble_eq_true rfl) (Nat.le_of_ble_eq_true rfl) ⟨rfl, rfl⟩
                · rw [if_neg hc41] at hd
                  refine am_steps ok_De_judgeLimit 2 (x' := (106, [some (.ref 20), none, none, none, some (.int u36)], [.int 0], h0, 0, 0)) rfl (Nat.le_of_ble_eq_true rfl) (Nat.le_of_ble_eq_true rfl) ?_
                  cases hd; exact am_ret ok_De_judgeLimit rfl (Nat.le_of_ble_eq_true rfl) (Nat.le_of_ble_eq_true rfl) ⟨rfl, rfl⟩
            clear hB39; have hd := hA38; clear hA38
            refine am_if (fun hc42 => ?_) (fun hc42 => ?_)
            · rw [if_pos hc42] at hd
              refine am_steps ok_De_judgeLimit 1 (x' := (80, [some (.ref 20), some (.ref 2), some (.int (S.2.2.2.2.1 5 j1)), some (.ref b28), none], [.int 0], h0, 0, 0)) rfl (Nat.le_of_ble_eq_true rfl) (Nat.le_of_ble_eq_true rfl) ?_
              refine am_drop 1 ?_
              refine am_drop 2 ?_
              refine am_drop 3 ?_
              cases hd; exact K37 
            · rw [if_neg hc42] at hd
              refine am_steps ok_De_judgeLimit 2 (x' := (80, [some (.ref 20), some (.ref 2), some (.int (S.2.2.2.2.1 5 j1)), some (.ref b28), none], [.int 1], h0, 0, 0)) rfl (Nat.le_of_ble_eq_true rfl) (Nat.le_of_ble_eq_true rfl) ?_
              refine am_drop 1 ?_
              refine am_drop 2 ?_
              refine am_drop 3 ?_
              cases hd; exact K37 
          · rw [if_neg hc35] at hd
            refine am_steps ok_De_judgeLimit 1 (x' := (63, [some (.ref 20), some (.ref 2), some (.int (S.2.2.2.2.1 5 j1)), some (.ref b28), none], [.int 9], h0, 0, 0)) rfl (Nat.le_of_ble_eq_true rfl) (Nat.le_of_ble_eq_true rfl) ?_
            cases hd; exact am_ret ok_De_judgeLimit rfl (Nat.le_of_ble_eq_true rfl) (Nat.le_of_ble_eq_true rfl) ⟨rfl, rfl⟩
      · rw [if_neg hc6] at hd
        refine am_steps ok_De_judgeLimit 1 (x' := (28, [some (.ref 20), some (.ref 2), some (.int (S.2.2.2.2.1 5 j1)), none, none], [.int 8], h0, 0, 0)) rfl (Nat.le_of_ble_eq_true rfl) (Nat.le_of_ble_eq_true rfl) ?_
        cases hd; exact am_ret ok_De_judgeLimit rfl (Nat.le_of_ble_eq_true rfl) (Nat.le_of_ble_eq_true rfl) ⟨rfl, rfl⟩
def h_De_judgeUnlimit  (S : hS) : Option (Int32) := (am_ix 0 12).bind fun j1 => ((h_Bo_findRoom (S.2.1 813 2) (S.2.2.2.2.1 5 j1) S).bind fun q4 => (if q4 = none then (some 8) else ((q4).bind fun b13 => (if ((S.2.1 1002 b13) : Int32) = 0 then (some 8) else (some 0)))))
set_option maxHeartbeats 4000000 in
set_option maxRecDepth 100000 in
theorem c_De_judgeUnlimit  (S : hS) (h0 : am_H) (hR : RH S h0)  (q : Int32) (hd : h_De_judgeUnlimit  S = some q) : am_Me am_Pr none 4 88 0 0 148 [.ref 20, .ref 2] h0 (am_is (some (.int q)) h0) := by
  refine am_enter (d := hd_De_judgeUnlimit) rfl (by decide +kernel) (Nat.le_of_ble_eq_true rfl) ?_
  show am_S _ _ _ _ _ _ _ (0, [some (.ref 20), some (.ref 2), none], [], h0, 0, 0) _
  unfold h_De_judgeUnlimit at hd
  refine am_steps ok_De_judgeUnlimit 1 (x' := (1, [some (.ref 20), some (.ref 2), none], [.ref 20], h0, 0, 0)) rfl (Nat.le_of_ble_eq_true rfl) (Nat.le_of_ble_eq_true rfl) ?_
  refine hr_get ok_De_judgeUnlimit rfl hR (kd := 5) (hs_k hR (a := 20) rfl) rfl (Nat.le_of_ble_eq_true rfl) (Nat.le_of_ble_eq_true rfl) (v := .ref 10) (congrArg va_rf (hR.2.2.2.2.1 (500, 20, 10) (by decide))) (pc' := 4) rfl (Nat.le_of_ble_eq_true rfl) (Nat.le_of_ble_eq_true rfl) ?_
  refine am_steps ok_De_judgeUnlimit 1 (x' := (5, [some (.ref 20), some (.ref 2), none], [.ref 2, .ref 10], h0, 0, 0)) rfl (Nat.le_of_ble_eq_true rfl) (Nat.le_of_ble_eq_true rfl) ?_
  refine hr_get ok_De_judgeUnlimit rfl hR (kd := 8) (hs_k hR (a := 2) rfl) rfl (Nat.le_of_ble_eq_true rfl) (Nat.le_of_ble_eq_true rfl) (v := .int (S.2.1 813 2)) rfl (pc' := 8) rfl (Nat.le_of_ble_eq_true rfl) (Nat.le_of_ble_eq_true rfl) ?_
  refine am_steps ok_De_judgeUnlimit 1 (x' := (9, [some (.ref 20), some (.ref 2), none], [.ref 2, .int (S.2.1 813 2), .ref 10], h0, 0, 0)) rfl (Nat.le_of_ble_eq_true rfl) (Nat.le_of_ble_eq_true rfl) ?_
  refine hr_get ok_De_judgeUnlimit rfl hR (kd := 8) (hs_k hR (a := 2) rfl) rfl (Nat.le_of_ble_eq_true rfl) (Nat.le_of_ble_eq_true rfl) (v := .ref 5) (congrArg va_rf (hR.2.2.2.2.1 (809, 2, 5) (by decide))) (pc' := 12) rfl (Nat.le_of_ble_eq_true rfl) (Nat.le_of_ble_eq_true rfl) ?_
  refine am_steps ok_De_judgeUnlimit 1 (x' := (13, [some (.ref 20), some (.ref 2), none], [.int 0, .ref 5, .int (S.2.1 813 2), .ref 10], h0, 0, 0)) rfl (Nat.le_of_ble_eq_true rfl) (Nat.le_of_ble_eq_true rfl) ?_
  obtain ⟨j1, hx2, hd3⟩ := Option.bind_eq_some_iff.mp hd; clear hd; have hd := hd3; clear hd3
  refine hr_iald ok_De_judgeUnlimit rfl hR (hs_k hR (a := 5) rfl) (hs_ln hR rfl) hx2 (pc' := 14) rfl (Nat.le_of_ble_eq_true rfl) (Nat.le_of_ble_eq_true rfl) ?_
  obtain ⟨q4, hq5, hd6⟩ := Option.bind_eq_some_iff.mp hd; clear hd; have hd := hd6; clear hd6
  refine ar_cv ok_De_judgeUnlimit hk_Bo_findRoom rfl rfl (As := [.int (S.2.1 813 2), .int (S.2.2.2.2.1 5 j1)]) (ad := 10) (rest := []) rfl rfl (hR.ob (hs_k hR (a := 10) rfl) (Nat.le_of_ble_eq_true rfl)) (Nat.le_of_ble_eq_true rfl) (c_Bo_findRoom (S.2.1 813 2) (S.2.2.2.2.1 5 j1) S h0 hR  q4 hq5) (Nat.le_of_ble_eq_true rfl) (Nat.le_of_ble_eq_true rfl) (Nat.le_of_ble_eq_true rfl) (Nat.le_of_ble_eq_true rfl) (pc' := 17) rfl (fun r7 h9 z8 => ?_)
  obtain ⟨rfl, z11, hk10⟩ := z8; rw [z11]
  show am_S _ _ _ _ _ _ _ (17, [some (.ref 20), some (.ref 2), none], [va_rf q4], h0, 0, 0) _
  refine hr_astoren ok_De_judgeUnlimit rfl (Nat.le_of_ble_eq_true rfl) (lo' := [some (.ref 20), some (.ref 2), some (va_rf q4)]) rfl (pc' := 18) rfl (Nat.le_of_ble_eq_true rfl) (Nat.le_of_ble_eq_true rfl) ?_
  refine hr_aloadn ok_De_judgeUnlimit rfl rfl (pc' := 19) rfl (Nat.le_of_ble_eq_true rfl) (Nat.le_of_ble_eq_true rfl) ?_
  refine hr_ifnull ok_De_judgeUnlimit rfl (pc' := 22) rfl (Nat.le_of_ble_eq_true rfl) (Nat.le_of_ble_eq_true rfl) ?_
  refine am_if (fun hc12 => ?_) (fun hc12 => ?_)
  · rw [if_pos hc12] at hd
    refine am_steps ok_De_judgeUnlimit 1 (x' := (35, [some (.ref 20), some (.ref 2), some (va_rf q4)], [.int 8], h0, 0, 0)) rfl (Nat.le_of_ble_eq_true rfl) (Nat.le_of_ble_eq_true rfl) ?_
    cases hd; exact am_ret ok_De_judgeUnlimit rfl (Nat.le_of_ble_eq_true rfl) (Nat.le_of_ble_eq_true rfl) ⟨rfl, rfl⟩
  · rw [if_neg hc12] at hd
    obtain ⟨b13, hb14, hd15⟩ := Option.bind_eq_some_iff.mp hd; clear hd; have hd := hd15; clear hd15
    have hk16 := hk10 b13 hb14
    rw [hb14]
    show am_S _ _ _ _ _ _ _ (22, [some (.ref 20), some (.ref 2), some (.ref b13)], [], h0, 0, 0) _
    refine am_steps ok_De_judgeUnlimit 1 (x' := (23, [some (.ref 20), some (.ref 2), some (.ref b13)], [.ref b13], h0, 0, 0)) rfl (Nat.le_of_ble_eq_true rfl) (Nat.le_of_ble_eq_true rfl) ?_
    refine hr_get ok_De_judgeUnlimit rfl hR (kd := 10) hk16 rfl (Nat.le_of_ble_eq_true rfl) (Nat.le_of_ble_eq_true rfl) (v := .int (S.2.1 1002 b13)) rfl (pc' := 26) rfl (Nat.le_of_ble_eq_true rfl) (Nat.le_of_ble_eq_true rfl) ?_
    refine am_steps ok_De_judgeUnlimit 1 (x' := (if ((S.2.1 1002 b13) : Int32) = 0 then 33 else 29, [some (.ref 20), some (.ref 2), some (.ref b13)], [], h0, 0, 0)) rfl (Nat.le_of_ble_eq_true rfl) (Nat.le_of_ble_eq_true rfl) ?_
    refine am_if (fun hc17 => ?_) (fun hc17 => ?_)
    · rw [if_pos hc17] at hd
      refine am_steps ok_De_judgeUnlimit 1 (x' := (35, [some (.ref 20), some (.ref 2), some (.ref b13)], [.int 8], h0, 0, 0)) rfl (Nat.le_of_ble_eq_true rfl) (Nat.le_of_ble_eq_true rfl) ?_
      cases hd; exact am_ret ok_De_judgeUnlimit rfl (Nat.le_of_ble_eq_true rfl) (Nat.le_of_ble_eq_true rfl) ⟨rfl, rfl⟩
    · rw [if_neg hc17] at hd
      refine am_steps ok_De_judgeUnlimit 2 (x' := (35, [some (.ref 20), some (.ref 2), some (.ref b13)], [.int 0], h0, 0, 0)) rfl (Nat.le_of_ble_eq_true rfl) (Nat.le_of_ble_eq_true rfl) ?_
      cases hd; exact am_ret ok_De_judgeUnlimit rfl (Nat.le_of_ble_eq_true rfl) (Nat.le_of_ble_eq_true rfl) ⟨rfl, rfl⟩
def h_De_canBePledged  (S : hS) : Option (Int32) := if ((S.2.1 813 2) : Int32) = 0 then (some 0) else ((am_ix 0 12).bind fun j2 => ((am_ix (S.2.2.2.2.1 5 j2) 64).bind fun j5 => (((S.2.2.2.2.2.2 12 j5)).bind fun b8 => (if ((S.2.1 301 b8) : Int32) = 0 then (some 0) else ((am_ix 0 4).bind fun j13 => (if ((lg_cmp (S.2.2.2.2.2.1 6 j13) 0) : Int32) = 0 then (some 0) else (some 1)))))))
set_option maxHeartbeats 4000000 in
set_option maxRecDepth 100000 in
theorem c_De_canBePledged  (S : hS) (h0 : am_H) (hR : RH S h0)  (q : Int32) (hd : h_De_canBePledged  S = some q) : am_Me am_Pr none 0 0 0 0 149 [.ref 20, .ref 2] h0 (am_is (some (.int q)) h0) := by
  refine am_enter (d := hd_De_canBePledged) rfl (by decide +kernel) (Nat.le_of_ble_eq_true rfl) ?_
  show am_S _ _ _ _ _ _ _ (0, [some (.ref 20), some (.ref 2)], [], h0, 0, 0) _
  unfold h_De_canBePledged at hd
  refine am_steps ok_De_canBePledged 1 (x' := (1, [some (.ref 20), some (.ref 2)], [.ref 2], h0, 0, 0)) rfl (Nat.le_of_ble_eq_true rfl) (Nat.le_of_ble_eq_true rfl) ?_
  refine hr_get ok_De_canBePledged rfl hR (kd := 8) (hs_k hR (a := 2) rfl) rfl (Nat.le_of_ble_eq_true rfl) (Nat.le_of_ble_eq_true rfl) (v := .int (S.2.1 813 2)) rfl (pc' := 4) rfl (Nat.le_of_ble_eq_true rfl) (Nat.le_of_ble_eq_true rfl) ?_
  refine am_steps ok_De_canBePledged 1 (x' := (if ((S.2.1 813 2) : Int32) = 0 then 42 else 7, [some (.ref 20), some (.ref 2)], [], h0, 0, 0)) rfl (Nat.le_of_ble_eq_true rfl) (Nat.le_of_ble_eq_true rfl) ?_
  refine am_if (fun hc1 => ?_) (fun hc1 => ?_)
  · rw [if_pos hc1] at hd
    refine am_steps ok_De_canBePledged 1 (x' := (43, [some (.ref 20), some (.ref 2)], [.int 0], h0, 0, 0)) rfl (Nat.le_of_ble_eq_true rfl) (Nat.le_of_ble_eq_true rfl) ?_
    cases hd; exact am_ret ok_De_canBePledged rfl (Nat.le_of_ble_eq_true rfl) (Nat.le_of_ble_eq_true rfl) ⟨rfl, rfl⟩
  · rw [if_neg hc1] at hd
    refine am_steps ok_De_canBePledged 1 (x' := (8, [some (.ref 20), some (.ref 2)], [.ref 20], h0, 0, 0)) rfl (Nat.le_of_ble_eq_true rfl) (Nat.le_of_ble_eq_true rfl) ?_
    refine hr_get ok_De_canBePledged rfl hR (kd := 5) (hs_k hR (a := 20) rfl) rfl (Nat.le_of_ble_eq_true rfl) (Nat.le_of_ble_eq_true rfl) (v := .ref 10) (congrArg va_rf (hR.2.2.2.2.1 (500, 20, 10) (by decide))) (pc' := 11) rfl (Nat.le_of_ble_eq_true rfl) (Nat.le_of_ble_eq_true rfl) ?_
    refine hr_get ok_De_canBePledged rfl hR (kd := 4) (hs_k hR (a := 10) rfl) rfl (Nat.le_of_ble_eq_true rfl) (Nat.le_of_ble_eq_true rfl) (v := .ref 12) (congrArg va_rf (hR.2.2.2.2.1 (402, 10, 12) (by decide))) (pc' := 14) rfl (Nat.le_of_ble_eq_true rfl) (Nat.le_of_ble_eq_true rfl) ?_
    refine am_steps ok_De_canBePledged 1 (x' := (15, [some (.ref 20), some (.ref 2)], [.ref 2, .ref 12], h0, 0, 0)) rfl (Nat.le_of_ble_eq_true rfl) (Nat.le_of_ble_eq_true rfl) ?_
    refine hr_get ok_De_canBePledged rfl hR (kd := 8) (hs_k hR (a := 2) rfl) rfl (Nat.le_of_ble_eq_true rfl) (Nat.le_of_ble_eq_true rfl) (v := .ref 5) (congrArg va_rf (hR.2.2.2.2.1 (809, 2, 5) (by decide))) (pc' := 18) rfl (Nat.le_of_ble_eq_true rfl) (Nat.le_of_ble_eq_true rfl) ?_
    refine am_steps ok_De_canBePledged 1 (x' := (19, [some (.ref 20), some (.ref 2)], [.int 0, .ref 5, .ref 12], h0, 0, 0)) rfl (Nat.le_of_ble_eq_true rfl) (Nat.le_of_ble_eq_true rfl) ?_
    obtain ⟨j2, hx3, hd4⟩ := Option.bind_eq_some_iff.mp hd; clear hd; have hd := hd4; clear hd4
    refine hr_iald ok_De_canBePledged rfl hR (hs_k hR (a := 5) rfl) (hs_ln hR rfl) hx3 (pc' := 20) rfl (Nat.le_of_ble_eq_true rfl) (Nat.le_of_ble_eq_true rfl) ?_
    obtain ⟨j5, hx6, hd7⟩ := Option.bind_eq_some_iff.mp hd; clear hd; have hd := hd7; clear hd7
    refine hr_aald ok_De_canBePledged rfl hR (kd := 25) (hs_k hR (a := 12) rfl) (by decide) (hs_ln hR rfl) hx6 (pc' := 21) rfl (Nat.le_of_ble_eq_true rfl) (Nat.le_of_ble_eq_true rfl) ?_
    obtain ⟨b8, hb9, hd10⟩ := Option.bind_eq_some_iff.mp hd; clear hd; have hd := hd10; clear hd10
    have hk11 := (fun b hb => hR.2.2.2.1 _ _ (hK.ln (hs_k hR (a := 12) rfl)) _ b hb) b8 hb9
    rw [hb9]
    show am_S _ _ _ _ _ _ _ (21, [some (.ref 20), some (.ref 2)], [.ref b8], h0, 0, 0) _
    refine hr_get ok_De_canBePledged rfl hR (kd := 3) hk11 rfl (Nat.le_of_ble_eq_true rfl) (Nat.le_of_ble_eq_true rfl) (v := .int (S.2.1 301 b8)) rfl (pc' := 24) rfl (Nat.le_of_ble_eq_true rfl) (Nat.le_of_ble_eq_true rfl) ?_
    refine am_steps ok_De_canBePledged 1 (x' := (if ((S.2.1 301 b8) : Int32) = 0 then 42 else 27, [some (.ref 20), some (.ref 2)], [], h0, 0, 0)) rfl (Nat.le_of_ble_eq_true rfl) (Nat.le_of_ble_eq_true rfl) ?_
    refine am_if (fun hc12 => ?_) (fun hc12 => ?_)
    · rw [if_pos hc12] at hd
      refine am_steps ok_De_canBePledged 1 (x' := (43, [some (.ref 20), some (.ref 2)], [.int 0], h0, 0, 0)) rfl (Nat.le_of_ble_eq_true rfl) (Nat.le_of_ble_eq_true rfl) ?_
      cases hd; exact am_ret ok_De_canBePledged rfl (Nat.le_of_ble_eq_true rfl) (Nat.le_of_ble_eq_true rfl) ⟨rfl, rfl⟩
    · rw [if_neg hc12] at hd
      refine am_steps ok_De_canBePledged 1 (x' := (28, [some (.ref 20), some (.ref 2)], [.ref 2], h0, 0, 0)) rfl (Nat.le_of_ble_eq_true rfl) (Nat.le_of_ble_eq_true rfl) ?_
      refine hr_get ok_De_canBePledged rfl hR (kd := 8) (hs_k hR (a := 2) rfl) rfl (Nat.le_of_ble_eq_true rfl) (Nat.le_of_ble_eq_true rfl) (v := .ref 6) (congrArg va_rf (hR.2.2.2.2.1 (811, 2, 6) (by decide))) (pc' := 31) rfl (Nat.le_of_ble_eq_true rfl) (Nat.le_of_ble_eq_true rfl) ?_
      refine am_steps ok_De_canBePledged 1 (x' := (32, [some (.ref 20), some (.ref 2)], [.int 0, .ref 6], h0, 0, 0)) rfl (Nat.le_of_ble_eq_true rfl) (Nat.le_of_ble_eq_true rfl) ?_
      obtain ⟨j13, hx14, hd15⟩ := Option.bind_eq_some_iff.mp hd; clear hd; have hd := hd15; clear hd15
      refine hr_lald ok_De_canBePledged rfl hR (hs_k hR (a := 6) rfl) (hs_ln hR rfl) hx14 (pc' := 33) rfl (Nat.le_of_ble_eq_true rfl) (Nat.le_of_ble_eq_true rfl) ?_
      refine am_steps ok_De_canBePledged 3 (x' := (if ((lg_cmp (S.2.2.2.2.2.1 6 j13) 0) : Int32) = 0 then 42 else 38, [some (.ref 20), some (.ref 2)], [], h0, 0, 0)) rfl (Nat.le_of_ble_eq_true rfl) (Nat.le_of_ble_eq_true rfl) ?_
      refine am_if (fun hc16 => ?_) (fun hc16 => ?_)
      · rw [if_pos hc16] at hd
        refine am_steps ok_De_canBePledged 1 (x' := (43, [some (.ref 20), some (.ref 2)], [.int 0], h0, 0, 0)) rfl (Nat.le_of_ble_eq_true rfl) (Nat.le_of_ble_eq_true rfl) ?_
        cases hd; exact am_ret ok_De_canBePledged rfl (Nat.le_of_ble_eq_true rfl) (Nat.le_of_ble_eq_true rfl) ⟨rfl, rfl⟩
      · rw [if_neg hc16] at hd
        refine am_steps ok_De_canBePledged 2 (x' := (43, [some (.ref 20), some (.ref 2)], [.int 1], h0, 0, 0)) rfl (Nat.le_of_ble_eq_true rfl) (Nat.le_of_ble_eq_true rfl) ?_
        cases hd; exact am_ret ok_De_canBePledged rfl (Nat.le_of_ble_eq_true rfl) (Nat.le_of_ble_eq_true rfl) ⟨rfl, rfl⟩
