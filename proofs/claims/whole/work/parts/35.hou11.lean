/-! Methods of the class as functions of its state. -/
def h_De_pledgeMore (a : Int64) (S : hS) : Option (hS) := (am_ix 0 12).bind fun j1 => ((h_Bo_pledgedOf (S.2.1 813 2) (S.2.2.2.2.1 5 j1) S).bind fun q4 => ((h_Bo_pledge (S.2.1 813 2) (S.2.2.2.2.1 5 j1) (q4 + a) S).bind fun q12 => (some q12)))
set_option maxHeartbeats 4000000 in
set_option maxRecDepth 100000 in
theorem c_De_pledgeMore (a : Int64) (S : hS) (h0 : am_H) (hR : RH S h0)  (q : hS) (hd : h_De_pledgeMore a S = some q) : am_Me am_Pr none 5 122 2 20 155 [.ref 20, .ref 2, .long a] h0 (hQv q S.1 h0) := by
  refine am_enter (d := hd_De_pledgeMore) rfl (by decide +kernel) (Nat.le_of_ble_eq_true rfl) ?_
  show am_S _ _ _ _ _ _ _ (0, [some (.ref 20), some (.ref 2), some (.long a), none], [], h0, 0, 0) _
  unfold h_De_pledgeMore at hd
  refine am_steps ok_De_pledgeMore 1 (x' := (1, [some (.ref 20), some (.ref 2), some (.long a), none], [.ref 20], h0, 0, 0)) rfl (Nat.le_of_ble_eq_true rfl) (Nat.le_of_ble_eq_true rfl) ?_
  refine hr_get ok_De_pledgeMore rfl hR (kd := 5) (hs_k hR (a := 20) rfl) rfl (Nat.le_of_ble_eq_true rfl) (Nat.le_of_ble_eq_true rfl) (v := .ref 10) (congrArg va_rf (hR.2.2.2.2.1 (500, 20, 10) (by decide))) (pc' := 4) rfl (Nat.le_of_ble_eq_true rfl) (Nat.le_of_ble_eq_true rfl) ?_
  refine am_steps ok_De_pledgeMore 1 (x' := (5, [some (.ref 20), some (.ref 2), some (.long a), none], [.ref 2, .ref 10], h0, 0, 0)) rfl (Nat.le_of_ble_eq_true rfl) (Nat.le_of_ble_eq_true rfl) ?_
  refine hr_get ok_De_pledgeMore rfl hR (kd := 8) (hs_k hR (a := 2) rfl) rfl (Nat.le_of_ble_eq_true rfl) (Nat.le_of_ble_eq_true rfl) (v := .int (S.2.1 813 2)) rfl (pc' := 8) rfl (Nat.le_of_ble_eq_true rfl) (Nat.le_of_ble_eq_true rfl) ?_
  refine am_steps ok_De_pledgeMore 1 (x' := (9, [some (.ref 20), some (.ref 2), some (.long a), none], [.ref 2, .int (S.2.1 813 2), .ref 10], h0, 0, 0)) rfl (Nat.le_of_ble_eq_true rfl) (Nat.le_of_ble_eq_true rfl) ?_
  refine hr_get ok_De_pledgeMore rfl hR (kd := 8) (hs_k hR (a := 2) rfl) rfl (Nat.le_of_ble_eq_true rfl) (Nat.le_of_ble_eq_true rfl) (v := .ref 5) (congrArg va_rf (hR.2.2.2.2.1 (809, 2, 5) (by decide))) (pc' := 12) rfl (Nat.le_of_ble_eq_true rfl) (Nat.le_of_ble_eq_true rfl) ?_
  refine am_steps ok_De_pledgeMore 1 (x' := (13, [some (.ref 20), some (.ref 2), some (.long a), none], [.int 0, .ref 5, .int (S.2.1 813 2), .ref 10], h0, 0, 0)) rfl (Nat.le_of_ble_eq_true rfl) (Nat.le_of_ble_eq_true rfl) ?_
  obtain ⟨j1, hx2, hd3⟩ := Option.bind_eq_some_iff.mp hd; clear hd; have hd := hd3; clear hd3
  refine hr_iald ok_De_pledgeMore rfl hR (hs_k hR (a := 5) rfl) (hs_ln hR rfl) hx2 (pc' := 14) rfl (Nat.le_of_ble_eq_true rfl) (Nat.le_of_ble_eq_true rfl) ?_
  refine am_steps ok_De_pledgeMore 1 (x' := (15, [some (.ref 20), some (.ref 2), some (.long a), none], [.ref 20, .int (S.2.2.2.2.1 5 j1), .int (S.2.1 813 2), .ref 10], h0, 0, 0)) rfl (Nat.le_of_ble_eq_true rfl) (Nat.le_of_ble_eq_true rfl) ?_
  refine hr_get ok_De_pledgeMore rfl hR (kd := 5) (hs_k hR (a := 20) rfl) rfl (Nat.le_of_ble_eq_true rfl) (Nat.le_of_ble_eq_true rfl) (v := .ref 10) (congrArg va_rf (hR.2.2.2.2.1 (500, 20, 10) (by decide))) (pc' := 18) rfl (Nat.le_of_ble_eq_true rfl) (Nat.le_of_ble_eq_true rfl) ?_
  refine am_steps ok_De_pledgeMore 1 (x' := (19, [some (.ref 20), some (.ref 2), some (.long a), none], [.ref 2, .ref 10, .int (S.2.2.2.2.1 5 j1), .int (S.2.1 813 2), .ref 10], h0, 0, 0)) rfl (Nat.le_of_ble_eq_true rfl) (Nat.le_of_ble_eq_true rfl) ?_
  refine hr_get ok_De_pledgeMore rfl hR (kd := 8) (hs_k hR (a := 2) rfl) rfl (Nat.le_of_ble_eq_true rfl) (Nat.le_of_ble_eq_true rfl) (v := .int (S.2.1 813 2)) rfl (pc' := 22) rfl (Nat.le_of_ble_eq_true rfl) (Nat.le_of_ble_eq_true rfl) ?_
  refine am_steps ok_De_pledgeMore 1 (x' := (23, [some (.ref 20), some (.ref 2), some (.long a), none], [.ref 2, .int (S.2.1 813 2), .ref 10, .int (S.2.2.2.2.1 5 j1), .int (S.2.1 813 2), .ref 10], h0, 0, 0)) rfl (Nat.le_of_ble_eq_true rfl) (Nat.le_of_ble_eq_true rfl) ?_
  refine hr_get ok_De_pledgeMore rfl hR (kd := 8) (hs_k hR (a := 2) rfl) rfl (Nat.le_of_ble_eq_true rfl) (Nat.le_of_ble_eq_true rfl) (v := .ref 5) (congrArg va_rf (hR.2.2.2.2.1 (809, 2, 5) (by decide))) (pc' := 26) rfl (Nat.le_of_ble_eq_true rfl) (Nat.le_of_ble_eq_true rfl) ?_
  refine am_steps ok_De_pledgeMore 1 (x' := (27, [some (.ref 20), some (.ref 2), some (.long a), none], [.int 0, .ref 5, .int (S.2.1 813 2), .ref 10, .int (S.2.2.2.2.1 5 j1), .int (S.2.1 813 2), .ref 10], h0, 0, 0)) rfl (Nat.le_of_ble_eq_true rfl) (Nat.le_of_ble_eq_true rfl) ?_
  refine hr_iald ok_De_pledgeMore rfl hR (hs_k hR (a := 5) rfl) (hs_ln hR rfl) hx2 (pc' := 28) rfl (Nat.le_of_ble_eq_true rfl) (Nat.le_of_ble_eq_true rfl) ?_
  obtain ⟨q4, hq5, hd6⟩ := Option.bind_eq_some_iff.mp hd; clear hd; have hd := hd6; clear hd6
  refine ar_cv ok_De_pledgeMore hk_Bo_pledgedOf rfl rfl (As := [.int (S.2.1 813 2), .int (S.2.2.2.2.1 5 j1)]) (ad := 10) (rest := [.int (S.2.2.2.2.1 5 j1), .int (S.2.1 813 2), .ref 10]) rfl rfl (hR.ob (hs_k hR (a := 10) rfl) (Nat.le_of_ble_eq_true rfl)) (Nat.le_of_ble_eq_true rfl) (c_Bo_pledgedOf (S.2.1 813 2) (S.2.2.2.2.1 5 j1) S h0 hR  q4 hq5) (Nat.le_of_ble_eq_true rfl) (Nat.le_of_ble_eq_true rfl) (Nat.le_of_ble_eq_true rfl) (Nat.le_of_ble_eq_true rfl) (pc' := 31) rfl (fun r7 h9 z8 => ?_)
  obtain ⟨rfl, z11⟩ := z8; rw [z11]
  show am_S _ _ _ _ _ _ _ (31, [some (.ref 20), some (.ref 2), some (.long a), none], [.long q4, .int (S.2.2.2.2.1 5 j1), .int (S.2.1 813 2), .ref 10], h0, 0, 0) _
  refine am_steps ok_De_pledgeMore 2 (x' := (33, [some (.ref 20), some (.ref 2), some (.long a), none], [.long (q4 + a), .int (S.2.2.2.2.1 5 j1), .int (S.2.1 813 2), .ref 10], h0, 0, 0)) rfl (Nat.le_of_ble_eq_true rfl) (Nat.le_of_ble_eq_true rfl) ?_
  obtain ⟨q12, hq13, hd14⟩ := Option.bind_eq_some_iff.mp hd; clear hd; have hd := hd14; clear hd14
  refine ar_cv ok_De_pledgeMore hk_Bo_pledge rfl rfl (As := [.int (S.2.1 813 2), .int (S.2.2.2.2.1 5 j1), .long (q4 + a)]) (ad := 10) (rest := []) rfl rfl (hR.ob (hs_k hR (a := 10) rfl) (Nat.le_of_ble_eq_true rfl)) (Nat.le_of_ble_eq_true rfl) (c_Bo_pledge (S.2.1 813 2) (S.2.2.2.2.1 5 j1) (q4 + a) S h0 hR  q12 hq13) (Nat.le_of_ble_eq_true rfl) (Nat.le_of_ble_eq_true rfl) (Nat.le_of_ble_eq_true rfl) (Nat.le_of_ble_eq_true rfl) (pc' := 36) rfl (fun r15 h17 z16 => ?_)
  obtain ⟨rfl, hR19, g20, e21⟩ := z16
  have f22 := hF.tr hF.rf g20
  show am_S _ _ _ _ _ _ _ (36, [some (.ref 20), some (.ref 2), some (.long a), none], [], h17, 2, 20) _
  cases hd; exact am_ret ok_De_pledgeMore rfl (Nat.le_of_ble_eq_true rfl) (Nat.le_of_ble_eq_true rfl) ⟨rfl, hR19, f22, (hE.rf.tr e21)⟩
def hl_In_beginTrial_7 : Nat → Nat → Int32 → hS → Option (hS)
  | 0, _, _, _ => none
  | fu + 1, v0, v1, s => if ((s.2.1 710 v0) : Int32) ≤ v1 then (some s) else (((s.2.2.2.1 708 v0)).bind fun b6 => ((am_ix v1 (hln s.1 b6)).bind fun j10 => (((s.2.2.2.2.2.2 b6 j10)).bind fun b13 => (hl_In_beginTrial_7 fu v0 (v1 + 1) (hpL s 1009 b13 (s.2.2.1 1001 b13))))))
set_option maxHeartbeats 4000000 in
set_option maxRecDepth 100000 in
theorem Lc_In_beginTrial_7 {Q : Option Value → am_H → Prop} (sh0 : List (Nat × Nat)) (h0 : am_H) : ∀ (fu : Nat) (v0 : Nat) (v1 : Int32) (s : hS) (h : am_H), RH s h → hF h0 h → hE sh0 s.1 → (hK s.1 v0 7) → ∀ q : hS, hl_In_beginTrial_7 fu v0 v1 s = some q → (∀ h' : am_H, RH q h' → hF h0 h' → hE sh0 q.1 → am_S am_Pr none 0 0 0 0 178 (39, [some (.ref v0), none], [], h', 0, 0) Q) → am_S am_Pr none 0 0 0 0 178 (7, [some (.ref v0), some (.int v1)], [], h, 0, 0) Q := by
  intro fu
  induction fu with
  | zero => intro v0 v1 s h hR f he hv0 q hd; cases hd
  | succ fu ih =>
    intro v0 v1 s h hR f he hv0 q hd kk
    unfold hl_In_beginTrial_7 at hd
    refine am_steps ok_In_beginTrial 2 (x' := (9, [some (.ref v0), some (.int v1)], [.ref v0, .int v1], h, 0, 0)) rfl (Nat.le_of_ble_eq_true rfl) (Nat.le_of_ble_eq_true rfl) ?_
    refine hr_get ok_In_beginTrial rfl hR (kd := 7) hv0 rfl (Nat.le_of_ble_eq_true rfl) (Nat.le_of_ble_eq_true rfl) (v := .int (s.2.1 710 v0)) rfl (pc' := 12) rfl (Nat.le_of_ble_eq_true rfl) (Nat.le_of_ble_eq_true rfl) ?_
    refine am_steps ok_In_beginTrial 1 (x' := (if ((s.2.1 710 v0) : Int32) ≤ v1 then 39 else 15, [some (.ref v0), some (.int v1)], [], h, 0, 0)) rfl (Nat.le_of_ble_eq_true rfl) (Nat.le_of_ble_eq_true rfl) ?_
    refine am_if (fun hc5 => ?_) (fun hc5 => ?_)
    · rw [if_pos hc5] at hd
      refine am_drop 1 ?_
      cases hd; exact kk h hR f he 
    · rw [if_neg hc5] at hd
      refine am_steps ok_In_beginTrial 1 (x' := (16, [some (.ref v0), some (.int v1)], [.ref v0], h, 0, 0)) rfl (Nat.le_of_ble_eq_true rfl) (Nat.le_of_ble_eq_true rfl) ?_
      refine hr_get ok_In_beginTrial rfl hR (kd := 7) hv0 rfl (Nat.le_of_ble_eq_true rfl) (Nat.le_of_ble_eq_true rfl) (v := va_rf (s.2.2.2.1 708 v0)) rfl (pc' := 19) rfl (Nat.le_of_ble_eq_true rfl) (Nat.le_of_ble_eq_true rfl) ?_
      refine am_steps ok_In_beginTrial 1 (x' := (20, [some (.ref v0), some (.int v1)], [.int v1, va_rf (s.2.2.2.1 708 v0)], h, 0, 0)) rfl (Nat.le_of_ble_eq_true rfl) (Nat.le_of_ble_eq_true rfl) ?_
      obtain ⟨b6, hb7, hd8⟩ := Option.bind_eq_some_iff.mp hd; clear hd; have hd := hd8; clear hd8
      have hk9 := (fun b hb => hR.2.2.1 708 _ b hb) b6 hb7
      rw [hb7]
      show am_S _ _ _ _ _ _ _ (20, [some (.ref v0), some (.int v1)], [.int v1, .ref b6], h, 0, 0) _
      obtain ⟨j10, hx11, hd12⟩ := Option.bind_eq_some_iff.mp hd; clear hd; have hd := hd12; clear hd12
      refine hr_aald ok_In_beginTrial rfl hR (kd := 26) hk9 (by decide) rfl hx11 (pc' := 21) rfl (Nat.le_of_ble_eq_true rfl) (Nat.le_of_ble_eq_true rfl) ?_
      refine am_steps ok_In_beginTrial 1 (x' := (22, [some (.ref v0), some (.int v1)], [.ref v0, va_rf (s.2.2.2.2.2.2 b6 j10)], h, 0, 0)) rfl (Nat.le_of_ble_eq_true rfl) (Nat.le_of_ble_eq_true rfl) ?_
      refine hr_get ok_In_beginTrial rfl hR (kd := 7) hv0 rfl (Nat.le_of_ble_eq_true rfl) (Nat.le_of_ble_eq_true rfl) (v := .ref b6) (congrArg va_rf hb7) (pc' := 25) rfl (Nat.le_of_ble_eq_true rfl) (Nat.le_of_ble_eq_true rfl) ?_
      refine am_steps ok_In_beginTrial 1 (x' := (26, [some (.ref v0), some (.int v1)], [.int v1, .ref b6, va_rf (s.2.2.2.2.2.2 b6 j10)], h, 0, 0)) rfl (Nat.le_of_ble_eq_true rfl) (Nat.le_of_ble_eq_true rfl) ?_
      refine hr_aald ok_In_beginTrial rfl hR (kd := 26) hk9 (by decide) rfl hx11 (pc' := 27) rfl (Nat.le_of_ble_eq_true rfl) (Nat.le_of_ble_eq_true rfl) ?_
      obtain ⟨b13, hb14, hd15⟩ := Option.bind_eq_some_iff.mp hd; clear hd; have hd := hd15; clear hd15
      have hk16 := (fun b hb => hR.2.2.2.1 _ _ (hK.ln hk9) _ b hb) b13 hb14
      rw [hb14]
      show am_S _ _ _ _ _ _ _ (27, [some (.ref v0), some (.int v1)], [.ref b13, .ref b13], h, 0, 0) _
      refine hr_get ok_In_beginTrial rfl hR (kd := 10) hk16 rfl (Nat.le_of_ble_eq_true rfl) (Nat.le_of_ble_eq_true rfl) (v := .long (s.2.2.1 1001 b13)) rfl (pc' := 30) rfl (Nat.le_of_ble_eq_true rfl) (Nat.le_of_ble_eq_true rfl) ?_
      refine hr_put ok_In_beginTrial rfl hR (kd := 10) hk16 rfl (Nat.le_of_ble_eq_true rfl) (Nat.le_of_ble_eq_true rfl) rfl (S' := (hpL s 1009 b13 (s.2.2.1 1001 b13))) rfl (hWT.up hR.2.2 rfl rfl rfl) (pc' := 33) rfl (Nat.le_of_ble_eq_true rfl) (Nat.le_of_ble_eq_true rfl) (fun h17 hR18 g19 => ?_)
      have f20 := hF.tr f g19
      refine am_steps ok_In_beginTrial 2 (x' := (7, [some (.ref v0), some (.int (v1 + 1))], [], h17, 0, 0)) rfl (Nat.le_of_ble_eq_true rfl) (Nat.le_of_ble_eq_true rfl) ?_
      exact ih v0 (v1 + 1) (hpL s 1009 b13 (s.2.2.1 1001 b13)) h17 hR18 f20 he hv0 q hd kk
def h_In_beginTrial (a : Nat) (S : hS) : Option (hS) := (hl_In_beginTrial_7 100000 a 0 (hpI S 705 a 1)).bind fun q21 => (some q21)
set_option maxHeartbeats 4000000 in
set_option maxRecDepth 100000 in
theorem c_In_beginTrial (a : Nat) (S : hS) (h0 : am_H) (hR : RH S h0) (ha : hK S.1 a 7) (q : hS) (hd : h_In_beginTrial a S = some q) : am_Me am_Pr none 0 0 0 0 178 [.ref a] h0 (hQv q S.1 h0) := by
  refine am_enter (d := hd_In_beginTrial) rfl (by decide +kernel) (Nat.le_of_ble_eq_true rfl) ?_
  show am_S _ _ _ _ _ _ _ (0, [some (.ref a), none], [], h0, 0, 0) _
  unfold h_In_beginTrial at hd
  refine am_steps ok_In_beginTrial 2 (x' := (2, [some (.ref a), none], [.int 1, .ref a], h0, 0, 0)) rfl (Nat.le_of_ble_eq_true rfl) (Nat.le_of_ble_eq_true rfl) ?_
  refine hr_put ok_In_beginTrial rfl hR (kd := 7) ha rfl (Nat.le_of_ble_eq_true rfl) (Nat.le_of_ble_eq_true rfl) rfl (S' := (hpI S 705 a 1)) rfl (hWT.up hR.2.2 rfl rfl rfl) (pc' := 5) rfl (Nat.le_of_ble_eq_true rfl) (Nat.le_of_ble_eq_true rfl) (fun h1 hR2 g3 => ?_)
  have f4 := hF.tr hF.rf g3
  refine am_steps ok_In_beginTrial 2 (x' := (7, [some (.ref a), some (.int 0)], [], h1, 0, 0)) rfl (Nat.le_of_ble_eq_true rfl) (Nat.le_of_ble_eq_true rfl) ?_
  obtain ⟨q21, hq22, hd23⟩ := Option.bind_eq_some_iff.mp hd; clear hd; have hd := hd23; clear hd23
  refine Lc_In_beginTrial_7 S.1 h0 100000 a 0 (hpI S 705 a 1) h1 hR2 f4 hE.rf ha q21 hq22 (fun h24 hR25 f26 e27 => ?_)
  show am_S _ _ _ _ _ _ _ (39, [some (.ref a), none], [], h24, 0, 0) _
  cases hd; exact am_ret ok_In_beginTrial rfl (Nat.le_of_ble_eq_true rfl) (Nat.le_of_ble_eq_true rfl) ⟨rfl, hR25, f26, (hE.rf.tr e27)⟩
def hl_In_joinTrial_2 : Nat → Nat → Int32 → hS → Option (hS)
  | 0, _, _, _ => none
  | fu + 1, v0, v1, s => if ((s.2.1 710 v0) : Int32) ≤ v1 then (some s) else (((s.2.2.2.1 708 v0)).bind fun b2 => ((am_ix v1 (hln s.1 b2)).bind fun j6 => (((s.2.2.2.2.2.2 b2 j6)).bind fun b9 => (((s.2.2.2.1 709 v0)).bind fun b13 => ((am_ix v1 (hln s.1 b13)).bind fun j17 => (hl_In_joinTrial_2 fu v0 (v1 + 1) (hpL s 1009 b9 ((s.2.2.1 1009 b9) + (s.2.2.2.2.2.1 b13 j17)))))))))
set_option maxHeartbeats 4000000 in
set_option maxRecDepth 100000 in
theorem Lc_In_joinTrial_2 {Q : Option Value → am_H → Prop} (sh0 : List (Nat × Nat)) (h0 : am_H) : ∀ (fu : Nat) (v0 : Nat) (v1 : Int32) (s : hS) (h : am_H), RH s h → hF h0 h → hE sh0 s.1 → (hK s.1 v0 7) → ∀ q : hS, hl_In_joinTrial_2 fu v0 v1 s = some q → (∀ h' : am_H, RH q h' → hF h0 h' → hE sh0 q.1 → am_S am_Pr none 0 0 0 0 179 (36, [some (.ref v0), none], [], h', 0, 0) Q) → am_S am_Pr none 0 0 0 0 179 (2, [some (.ref v0), some (.int v1)], [], h, 0, 0) Q := by
  intro fu
  induction fu with
  | zero => intro v0 v1 s h hR f he hv0 q hd; cases hd
  | succ fu ih =>
    intro v0 v1 s h hR f he hv0 q hd kk
    unfold hl_In_joinTrial_2 at hd
    refine am_steps ok_In_joinTrial 2 (x' := (4, [some (.ref v0), some (.int v1)], [.ref v0, .int v1], h, 0, 0)) rfl (Nat.le_of_ble_eq_true rfl) (Nat.le_of_ble_eq_true rfl) ?_
    refine hr_get ok_In_joinTrial rfl hR (kd := 7) hv0 rfl (Nat.le_of_ble_eq_true rfl) (Nat.le_of_ble_eq_true rfl) (v := .int (s.2.1 710 v0)) rfl (pc' := 7) rfl (Nat.le_of_ble_eq_true rfl) (Nat.le_of_ble_eq_true rfl) ?_
    refine am_steps ok_In_joinTrial 1 (x' := (if ((s.2.1 710 v0) : Int32) ≤ v1 then 36 else 10, [some (.ref v0), some (.int v1)], [], h, 0, 0)) rfl (Nat.le_of_ble_eq_true rfl) (Nat.le_of_ble_eq_true rfl) ?_
    refine am_if (fun hc1 => ?_) (fun hc1 => ?_)
    · rw [if_pos hc1] at hd
      refine am_drop 1 ?_
      cases hd; exact kk h hR f he 
    · rw [if_neg hc1] at hd
      refine am_steps ok_In_joinTrial 1 (x' := (11, [some (.ref v0), some (.int v1)], [.ref v0], h, 0, 0)) rfl (Nat.le_of_ble_eq_true rfl) (Nat.le_of_ble_eq_true rfl) ?_
      refine hr_get ok_In_joinTrial rfl hR (kd := 7) hv0 rfl (Nat.le_of_ble_eq_true rfl) (Nat.le_of_ble_eq_true rfl) (v := va_rf (s.2.2.2.1 708 v0)) rfl (pc' := 14) rfl (Nat.le_of_ble_eq_true rfl) (Nat.le_of_ble_eq_true rfl) ?_
      refine am_steps ok_In_joinTrial 1 (x' := (15, [some (.ref v0), some (.int v1)], [.int v1, va_rf (s.2.2.2.1 708 v0)], h, 0, 0)) rfl (Nat.le_of_ble_eq_true rfl) (Nat.le_of_ble_eq_true rfl) ?_
      obtain ⟨b2, hb3, hd4⟩ := Option.bind_eq_some_iff.mp hd; clear hd; have hd := hd4; clear hd4
      have hk5 := (fun b hb => hR.2.2.1 708 _ b hb) b2 hb3
      rw [hb3]
      show am_S _ _ _ _ _ _ _ (15, [some (.ref v0), some (.int v1)], [.int v1, .ref b2], h, 0, 0) _
      obtain ⟨j6, hx7, hd8⟩ := Option.bind_eq_some_iff.mp hd; clear hd; have hd := hd8; clear hd8
      refine hr_aald ok_In_joinTrial rfl hR (kd := 26) hk5 (by decide) rfl hx7 (pc' := 16) rfl (Nat.le_of_ble_eq_true rfl) (Nat.le_of_ble_eq_true rfl) ?_
      obtain ⟨b9, hb10, hd11⟩ := Option.bind_eq_some_iff.mp hd; clear hd; have hd := hd11; clear hd11
      have hk12 := (fun b hb => hR.2.2.2.1 _ _ (hK.ln hk5) _ b hb) b9 hb10
      rw [hb10]
      show am_S _ _ _ _ _ _ _ (16, [some (.ref v0), some (.int v1)], [.ref b9], h, 0, 0) _
      refine am_steps ok_In_joinTrial 1 (x' := (17, [some (.ref v0), some (.int v1)], [.ref b9, .ref b9], h, 0, 0)) rfl (Nat.le_of_ble_eq_true rfl) (Nat.le_of_ble_eq_true rfl) ?_
      refine hr_get ok_In_joinTrial rfl hR (kd := 10) hk12 rfl (Nat.le_of_ble_eq_true rfl) (Nat.le_of_ble_eq_true rfl) (v := .long (s.2.2.1 1009 b9)) rfl (pc' := 20) rfl (Nat.le_of_ble_eq_true rfl) (Nat.le_of_ble_eq_true rfl) ?_
      refine am_steps ok_In_joinTrial 1 (x' := (21, [some (.ref v0), some (.int v1)], [.ref v0, .long (s.2.2.1 1009 b9), .ref b9], h, 0, 0)) rfl (Nat.le_of_ble_eq_true rfl) (Nat.le_of_ble_eq_true rfl) ?_
      refine hr_get ok_In_joinTrial rfl hR (kd := 7) hv0 rfl (Nat.le_of_ble_eq_true rfl) (Nat.le_of_ble_eq_true rfl) (v := va_rf (s.2.2.2.1 709 v0)) rfl (pc' := 24) rfl (Nat.le_of_ble_eq_true rfl) (Nat.le_of_ble_eq_true rfl) ?_
      refine am_steps ok_In_joinTrial 1 (x' := (25, [some (.ref v0), some (.int v1)], [.int v1, va_rf (s.2.2.2.1 709 v0), .long (s.2.2.1 1009 b9), .ref b9], h, 0, 0)) rfl (Nat.le_of_ble_eq_true rfl) (Nat.le_of_ble_eq_true rfl) ?_
      obtain ⟨b13, hb14, hd15⟩ := Option.bind_eq_some_iff.mp hd; clear hd; have hd := hd15; clear hd15
      have hk16 := (fun b hb => hR.2.2.1 709 _ b hb) b13 hb14
      rw [hb14]
      show am_S _ _ _ _ _ _ _ (25, [some (.ref v0), some (.int v1)], [.int v1, .ref b13, .long (s.2.2.1 1009 b9), .ref b9], h, 0, 0) _
      obtain ⟨j17, hx18, hd19⟩ := Option.bind_eq_some_iff.mp hd; clear hd; have hd := hd19; clear hd19
      refine hr_lald ok_In_joinTrial rfl hR hk16 rfl hx18 (pc' := 26) rfl (Nat.le_of_ble_eq_true rfl) (Nat.le_of_ble_eq_true rfl) ?_
      refine am_steps ok_In_joinTrial 1 (x' := (27, [some (.ref v0), some (.int v1)], [.long ((s.2.2.1 1009 b9) + (s.2.2.2.2.2.1 b13 j17)), .ref b9], h, 0, 0)) rfl (Nat.le_of_ble_eq_true rfl) (Nat.le_of_ble_eq_true rfl) ?_
      refine hr_put ok_In_joinTrial rfl hR (kd := 10) hk12 rfl (Nat.le_of_ble_eq_true rfl) (Nat.le_of_ble_eq_true rfl) rfl (S' := (hpL s 1009 b9 ((s.2.2.1 1009 b9) + (s.2.2.2.2.2.1 b13 j17)))) rfl (hWT.up hR.2.2 rfl rfl rfl) (pc' := 30) rfl (Nat.le_of_ble_eq_true rfl) (Nat.le_of_ble_eq_true rfl) (fun h20 hR21 g22 => ?_)
      have f23 := hF.tr f g22
      refine am_steps ok_In_joinTrial 2 (x' := (2, [some (.ref v0), some (.int (v1 + 1))], [], h20, 0, 0)) rfl (Nat.le_of_ble_eq_true rfl) (Nat.le_of_ble_eq_true rfl) ?_
      exact ih v0 (v1 + 1) (hpL s 1009 b9 ((s.2.2.1 1009 b9) + (s.2.2.2.2.2.1 b13 j17))) h20 hR21 f23 he hv0 q hd kk
def h_In_joinTrial (a : Nat) (S : hS) : Option (hS) := (hl_In_joinTrial_2 100000 a 0 S).bind fun q24 => (some q24)
set_option maxHeartbeats 4000000 in
set_option maxRecDepth 100000 in
theorem c_In_joinTrial (a : Nat) (S : hS) (h0 : am_H) (hR : RH S h0) (ha : hK S.1 a 7) (q : hS) (hd : h_In_joinTrial a S = some q) : am_Me am_Pr none 0 0 0 0 179 [.ref a] h0 (hQv q S.1 h0) := by
  refine am_enter (d := hd_In_joinTrial) rfl (by decide +kernel) (Nat.le_of_ble_eq_true rfl) ?_
  show am_S _ _ _ _ _ _ _ (0, [some (.ref a), none], [], h0, 0, 0) _
  unfold h_In_joinTrial at hd
  refine am_steps ok_In_joinTrial 2 (x' := (2, [some (.ref a), some (.int 0)], [], h0, 0, 0)) rfl (Nat.le_of_ble_eq_true rfl) (Nat.le_of_ble_eq_true rfl) ?_
  obtain ⟨q24, hq25, hd26⟩ := Option.bind_eq_some_iff.mp hd; clear hd; have hd := hd26; clear hd26
  refine Lc_In_joinTrial_2 S.1 h0 100000 a 0 S h0 hR hF.rf hE.rf ha q24 hq25 (fun h27 hR28 f29 e30 => ?_)
  show am_S _ _ _ _ _ _ _ (36, [some (.ref a), none], [], h27, 0, 0) _
  cases hd; exact am_ret ok_In_joinTrial rfl (Nat.le_of_ble_eq_true rfl) (Nat.le_of_ble_eq_true rfl) ⟨rfl, hR28, f29, (hE.rf.tr e30)⟩
def h_In_takes (a : Nat) (b : Int32) (S : hS) : Option (Int32) := ((S.2.2.2.1 709 a)).bind fun b1 => ((am_ix b (hln S.1 b1)).bind fun j5 => (if (0 : Int32) ≤ (lg_cmp (S.2.2.2.2.2.1 b1 j5) 0) then (some 0) else (((S.2.2.2.1 708 a)).bind fun b9 => ((am_ix b (hln S.1 b9)).bind fun j13 => (((S.2.2.2.2.2.2 b9 j13)).bind fun b16 => (if ((S.2.1 1002 b16) : Int32) = 0 then (some 0) else (some 1)))))))
set_option maxHeartbeats 4000000 in
set_option maxRecDepth 100000 in
theorem c_In_takes (a : Nat) (b : Int32) (S : hS) (h0 : am_H) (hR : RH S h0) (ha : hK S.1 a 7) (q : Int32) (hd : h_In_takes a b S = some q) : am_Me am_Pr none 0 0 0 0 182 [.ref a, .int b] h0 (am_is (some (.int q)) h0) := by
  refine am_enter (d := hd_In_takes) rfl (by decide +kernel) (Nat.le_of_ble_eq_true rfl) ?_
  show am_S _ _ _ _ _ _ _ (0, [some (.ref a), some (.int b)], [], h0, 0, 0) _
  unfold h_In_takes at hd
  refine am_steps ok_In_takes 1 (x' := (1, [some (.ref a), some (.int b)], [.ref a], h0, 0, 0)) rfl (Nat.le_of_ble_eq_true rfl) (Nat.le_of_ble_eq_true rfl) ?_
  refine hr_get ok_In_takes rfl hR (kd := 7) ha rfl (Nat.le_of_ble_eq_true rfl) (Nat.le_of_ble_eq_true rfl) (v := va_rf (S.2.2.2.1 709 a)) rfl (pc' := 4) rfl (Nat.le_of_ble_eq_true rfl) (Nat.le_of_ble_eq_true rfl) ?_
  refine am_steps ok_In_takes 1 (x' := (5, [some (.ref a), some (.int b)], [.int b, va_rf (S.2.2.2.1 709 a)], h0, 0, 0)) rfl (Nat.le_of_ble_eq_true rfl) (Nat.le_of_ble_eq_true rfl) ?_
  obtain ⟨b1, hb2, hd3⟩ := Option.bind_eq_some_iff.mp hd; clear hd; have hd := hd3; clear hd3
  have hk4 := (fun b hb => hR.2.2.1 709 _ b hb) b1 hb2
  rw [hb2]
  show am_S _ _ _ _ _ _ _ (5, [some (.ref a), some (.int b)], [.int b, .ref b1], h0, 0, 0) _
  obtain ⟨j5, hx6, hd7⟩ := Option.bind_eq_some_iff.mp hd; clear hd; have hd := hd7; clear hd7
  refine hr_lald ok_In_takes rfl hR hk4 rfl hx6 (pc' := 6) rfl (Nat.le_of_ble_eq_true rfl) (Nat.le_of_ble_eq_true rfl) ?_
  refine am_steps ok_In_takes 3 (x' := (if (0 : Int32) ≤ (lg_cmp (S.2.2.2.2.2.1 b1 j5) 0) then 27 else 11, [some (.ref a), some (.int b)], [], h0, 0, 0)) rfl (Nat.le_of_ble_eq_true rfl) (Nat.le_of_ble_eq_true rfl) ?_
  refine am_if (fun hc8 => ?_) (fun hc8 => ?_)
  · rw [if_pos hc8] at hd
    refine am_steps ok_In_takes 1 (x' := (28, [some (.ref a), some (.int b)], [.int 0], h0, 0, 0)) rfl (Nat.le_of_ble_eq_true rfl) (Nat.le_of_ble_eq_true rfl) ?_
    cases hd; exact am_ret ok_In_takes rfl (Nat.le_of_ble_eq_true rfl) (Nat.le_of_ble_eq_true rfl) ⟨rfl, rfl⟩
  · rw [if_neg hc8] at hd
    refine am_steps ok_In_takes 1 (x' := (12, [some (.ref a), some (.int b)], [.ref a], h0, 0, 0)) rfl (Nat.le_of_ble_eq_true rfl) (Nat.le_of_ble_eq_true rfl) ?_
    refine hr_get ok_In_takes rfl hR (kd := 7) ha rfl (Nat.le_of_ble_eq_true rfl) (Nat.le_of_ble_eq_true rfl) (v := va_rf (S.2.2.2.1 708 a)) rfl (pc' := 15) rfl (Nat.le_of_ble_eq_true rfl) (Nat.le_of_ble_eq_true rfl) ?_
    refine am_steps ok_In_takes 1 (x' := (16, [some (.ref a), some (.int b)], [.int b, va_rf (S.2.2.2.1 708 a)], h0, 0, 0)) rfl (Nat.le_of_ble_eq_true rfl) (Nat.le_of_ble_eq_true rfl) ?_
    obtain ⟨b9, hb10, hd11⟩ := Option.bind_eq_some_iff.mp hd; clear hd; have hd := hd11; clear hd11
    have hk12 := (fun b hb => hR.2.2.1 708 _ b hb) b9 hb10
    rw [hb10]
    show am_S _ _ _ _ _ _ _ (16, [some (.ref a), some (.int b)], [.int b, .ref b9], h0, 0, 0) _
    obtain ⟨j13, hx14, hd15⟩ := Option.bind_eq_some_iff.mp hd; clear hd; have hd := hd15; clear hd15
    refine hr_aald ok_In_takes rfl hR (kd := 26) hk12 (by decide) rfl hx14 (pc' := 17) rfl (Nat.le_of_ble_eq_true rfl) (Nat.le_of_ble_eq_true rfl) ?_
    obtain ⟨b16, hb17, hd18⟩ := Option.bind_eq_some_iff.mp hd; clear hd; have hd := hd18; clear hd18
    have hk19 := (fun b hb => hR.2.2.2.1 _ _ (hK.ln hk12) _ b hb) b16 hb17
    rw [hb17]
    show am_S _ _ _ _ _ _ _ (17, [some (.ref a), some (.int b)], [.ref b16], h0, 0, 0) _
    refine hr_get ok_In_takes rfl hR (kd := 10) hk19 rfl (Nat.le_of_ble_eq_true rfl) (Nat.le_of_ble_eq_true rfl) (v := .int (S.2.1 1002 b16)) rfl (pc' := 20) rfl (Nat.le_of_ble_eq_true rfl) (Nat.le_of_ble_eq_true rfl) ?_
    refine am_steps ok_In_takes 1 (x' := (if ((S.2.1 1002 b16) : Int32) = 0 then 27 else 23, [some (.ref a), some (.int b)], [], h0, 0, 0)) rfl (Nat.le_of_ble_eq_true rfl) (Nat.le_of_ble_eq_true rfl) ?_
    refine am_if (fun hc20 => ?_) (fun hc20 => ?_)
    · rw [if_pos hc20] at hd
      refine am_steps ok_In_takes 1 (x' := (28, [some (.ref a), some (.int b)], [.int 0], h0, 0, 0)) rfl (Nat.le_of_ble_eq_true rfl) (Nat.le_of_ble_eq_true rfl) ?_
      cases hd; exact am_ret ok_In_takes rfl (Nat.le_of_ble_eq_true rfl) (Nat.le_of_ble_eq_true rfl) ⟨rfl, rfl⟩
    · rw [if_neg hc20] at hd
      refine am_steps ok_In_takes 2 (x' := (28, [some (.ref a), some (.int b)], [.int 1], h0, 0, 0)) rfl (Nat.le_of_ble_eq_true rfl) (Nat.le_of_ble_eq_true rfl) ?_
      cases hd; exact am_ret ok_In_takes rfl (Nat.le_of_ble_eq_true rfl) (Nat.le_of_ble_eq_true rfl) ⟨rfl, rfl⟩
def hl_In_isLastTooMany_2 : Nat → Nat → Int32 → Int32 → hS → Option (Int32)
  | 0, _, _, _, _ => none
  | fu + 1, v0, v1, v2, s => if ((s.2.1 710 v0) : Int32) ≤ v2 then (some 0) else (((s.2.2.2.1 708 v0)).bind fun b2 => ((am_ix v2 (hln s.1 b2)).bind fun j6 => ((h_In_takes v0 v2 s).bind fun q9 => (if (q9 : Int32) = 0 then (hl_In_isLastTooMany_2 fu v0 v1 (v2 + 1) s) else (((s.2.2.2.2.2.2 b2 j6)).bind fun b18 => (if ((s.2.1 1008 b18) : Int32) = v1 then (hl_In_isLastTooMany_2 fu v0 v1 (v2 + 1) s) else (if (0 : Int32) ≤ (lg_cmp (s.2.2.1 1009 b18) (s.2.2.1 1003 b18)) then (hl_In_isLastTooMany_2 fu v0 v1 (v2 + 1) s) else (some 1))))))))
set_option maxHeartbeats 4000000 in
set_option maxRecDepth 100000 in
theorem Lc_In_isLastTooMany_2 (s : hS) (h : am_H) (hR : RH s h) : ∀ (fu : Nat) (v0 : Nat) (v1 : Int32) (v2 : Int32), (hK s.1 v0 7) → ∀ (q : Int32), hl_In_isLastTooMany_2 fu v0 v1 v2 s = some q → am_S am_Pr none 1 21 0 0 177 (2, [some (.ref v0), some (.int v1), some (.int v2), none], [], h, 0, 0) (am_is (some (.int q)) h) := by
  intro fu
  induction fu with
  | zero => intro v0 v1 v2 hv0 q hd; cases hd
  | succ fu ih =>
    intro v0 v1 v2 hv0 q hd
    unfold hl_In_isLastTooMany_2 at hd
    refine am_steps ok_In_isLastTooMany 2 (x' := (4, [some (.ref v0), some (.int v1), some (.int v2), none], [.ref v0, .int v2], h, 0, 0)) rfl (Nat.le_of_ble_eq_true rfl) (Nat.le_of_ble_eq_true rfl) ?_
    refine hr_get ok_In_isLastTooMany rfl hR (kd := 7) hv0 rfl (Nat.le_of_ble_eq_true rfl) (Nat.le_of_ble_eq_true rfl) (v := .int (s.2.1 710 v0)) rfl (pc' := 7) rfl (Nat.le_of_ble_eq_true rfl) (Nat.le_of_ble_eq_true rfl) ?_
    refine am_steps ok_In_isLastTooMany 1 (x' := (if ((s.2.1 710 v0) : Int32) ≤ v2 then 53 else 10, [some (.ref v0), some (.int v1), some (.int v2), none], [], h, 0, 0)) rfl (Nat.le_of_ble_eq_true rfl) (Nat.le_of_ble_eq_true rfl) ?_
    refine am_if (fun hc1 => ?_) (fun hc1 => ?_)
    · rw [if_pos hc1] at hd
      refine am_steps ok_In_isLastTooMany 1 (x' := (54, [some (.ref v0), some (.int v1), some (.int v2), none], [.int 0], h, 0, 0)) rfl (Nat.le_of_ble_eq_true rfl) (Nat.le_of_ble_eq_true rfl) ?_
      cases hd; exact am_ret ok_In_isLastTooMany rfl (Nat.le_of_ble_eq_true rfl) (Nat.le_of_ble_eq_true rfl) ⟨rfl, rfl⟩
    · rw [if_neg hc1] at hd
      refine am_steps ok_In_isLastTooMany 1 (x' := (11, [some (.ref v0), some (.int v1), some (.int v2), none], [.ref v0], h, 0, 0)) rfl (Nat.le_of_ble_eq_true rfl) (Nat.le_of_ble_eq_true rfl) ?_
      refine hr_get ok_In_isLastTooMany rfl hR (kd := 7) hv0 rfl (Nat.le_of_ble_eq_true rfl) (Nat.le_of_ble_eq_true rfl) (v := va_rf (s.2.2.2.1 708 v0)) rfl (pc' := 14) rfl (Nat.le_of_ble_eq_true rfl) (Nat.le_of_ble_eq_true rfl) ?_
      refine am_steps ok_In_isLastTooMany 1 (x' := (15, [some (.ref v0), some (.int v1), some (.int v2), none], [.int v2, va_rf (s.2.2.2.1 708 v0)], h, 0, 0)) rfl (Nat.le_of_ble_eq_true rfl) (Nat.le_of_ble_eq_true rfl) ?_
      obtain ⟨b2, hb3, hd4⟩ := Option.bind_eq_some_iff.mp hd; clear hd; have hd := hd4; clear hd4
      have hk5 := (fun b hb => hR.2.2.1 708 _ b hb) b2 hb3
      rw [hb3]
      show am_S _ _ _ _ _ _ _ (15, [some (.ref v0), some (.int v1), some (.int v2), none], [.int v2, .ref b2], h, 0, 0) _
      obtain ⟨j6, hx7, hd8⟩ := Option.bind_eq_some_iff.mp hd; clear hd; have hd := hd8; clear hd8
      refine hr_aald ok_In_isLastTooMany rfl hR (kd := 26) hk5 (by decide) rfl hx7 (pc' := 16) rfl (Nat.le_of_ble_eq_true rfl) (Nat.le_of_ble_eq_true rfl) ?_
      refine hr_astoren ok_In_isLastTooMany rfl (Nat.le_of_ble_eq_true rfl) (lo' := [some (.ref v0), some (.int v1), some (.int v2), some (va_rf (s.2.2.2.2.2.2 b2 j6))]) rfl (pc' := 17) rfl (Nat.le_of_ble_eq_true rfl) (Nat.le_of_ble_eq_true rfl) ?_
      refine am_steps ok_In_isLastTooMany 2 (x' := (19, [some (.ref v0), some (.int v1), some (.int v2), some (va_rf (s.2.2.2.2.2.2 b2 j6))], [.int v2, .ref v0], h, 0, 0)) rfl (Nat.le_of_ble_eq_true rfl) (Nat.le_of_ble_eq_true rfl) ?_
      obtain ⟨q9, hq10, hd11⟩ := Option.bind_eq_some_iff.mp hd; clear hd; have hd := hd11; clear hd11
      refine ar_cv ok_In_isLastTooMany hk_In_takes rfl rfl (As := [.int v2]) (ad := v0) (rest := []) rfl rfl (hR.ob hv0 (Nat.le_of_ble_eq_true rfl)) (Nat.le_of_ble_eq_true rfl) (c_In_takes v0 v2 s h hR hv0 q9 hq10) (Nat.le_of_ble_eq_true rfl) (Nat.le_of_ble_eq_true rfl) (Nat.le_of_ble_eq_true rfl) (Nat.le_of_ble_eq_true rfl) (pc' := 22) rfl (fun r12 h14 z13 => ?_)
      obtain ⟨rfl, z16⟩ := z13; rw [z16]
      show am_S _ _ _ _ _ _ _ (22, [some (.ref v0), some (.int v1), some (.int v2), some (va_rf (s.2.2.2.2.2.2 b2 j6))], [.int q9], h, 0, 0) _
      refine am_steps ok_In_isLastTooMany 1 (x' := (if (q9 : Int32) = 0 then 47 else 25, [some (.ref v0), some (.int v1), some (.int v2), some (va_rf (s.2.2.2.2.2.2 b2 j6))], [], h, 0, 0)) rfl (Nat.le_of_ble_eq_true rfl) (Nat.le_of_ble_eq_true rfl) ?_
      refine am_if (fun hc17 => ?_) (fun hc17 => ?_)
      · rw [if_pos hc17] at hd
        refine am_steps ok_In_isLastTooMany 2 (x' := (2, [some (.ref v0), some (.int v1), some (.int (v2 + 1)), some (va_rf (s.2.2.2.2.2.2 b2 j6))], [], h, 0, 0)) rfl (Nat.le_of_ble_eq_true rfl) (Nat.le_of_ble_eq_true rfl) ?_
        refine am_drop 3 ?_
        exact ih v0 v1 (v2 + 1) hv0 q hd
      · rw [if_neg hc17] at hd
        refine hr_aloadn ok_In_isLastTooMany rfl rfl (pc' := 26) rfl (Nat.le_of_ble_eq_true rfl) (Nat.le_of_ble_eq_true rfl) ?_
        obtain ⟨b18, hb19, hd20⟩ := Option.bind_eq_some_iff.mp hd; clear hd; have hd := hd20; clear hd20
        have hk21 := (fun b hb => hR.2.2.2.1 _ _ (hK.ln hk5) _ b hb) b18 hb19
        rw [hb19]
        show am_S _ _ _ _ _ _ _ (26, [some (.ref v0), some (.int v1), some (.int v2), some (.ref b18)], [.ref b18], h, 0, 0) _
        refine hr_get ok_In_isLastTooMany rfl hR (kd := 10) hk21 rfl (Nat.le_of_ble_eq_true rfl) (Nat.le_of_ble_eq_true rfl) (v := .int (s.2.1 1008 b18)) rfl (pc' := 29) rfl (Nat.le_of_ble_eq_true rfl) (Nat.le_of_ble_eq_true rfl) ?_
        refine am_steps ok_In_isLastTooMany 2 (x' := (if ((s.2.1 1008 b18) : Int32) = v1 then 47 else 33, [some (.ref v0), some (.int v1), some (.int v2), some (.ref b18)], [], h, 0, 0)) rfl (Nat.le_of_ble_eq_true rfl) (Nat.le_of_ble_eq_true rfl) ?_
        refine am_if (fun hc22 => ?_) (fun hc22 => ?_)
        · rw [if_pos hc22] at hd
          refine am_steps ok_In_isLastTooMany 2 (x' := (2, [some (.ref v0), some (.int v1), some (.int (v2 + 1)), some (.ref b18)], [], h, 0, 0)) rfl (Nat.le_of_ble_eq_true rfl) (Nat.le_of_ble_eq_true rfl) ?_
          refine am_drop 3 ?_
          exact ih v0 v1 (v2 + 1) hv0 q hd
        · rw [if_neg hc22] at hd
          refine am_steps ok_In_isLastTooMany 1 (x' := (34, [some (.ref v0), some (.int v1), some (.int v2), some (.ref b18)], [.ref b18], h, 0, 0)) rfl (Nat.le_of_ble_eq_true rfl) (Nat.le_of_ble_eq_true rfl) ?_
          refine hr_get ok_In_isLastTooMany rfl hR (kd := 10) hk21 rfl (Nat.le_of_ble_eq_true rfl) (Nat.le_of_ble_eq_true rfl) (v := .long (s.2.2.1 1009 b18)) rfl (pc' := 37) rfl (Nat.le_of_ble_eq_true rfl) (Nat.le_of_ble_eq_true rfl) ?_
          refine am_steps ok_In_isLastTooMany 1 (x' := (38, [some (.ref v0), some (.int v1), some (.int v2), some (.ref b18)], [.ref b18, .long (s.2.2.1 1009 b18)], h, 0, 0)) rfl (Nat.le_of_ble_eq_true rfl) (Nat.le_of_ble_eq_true rfl) ?_
          refine hr_get ok_In_isLastTooMany rfl hR (kd := 10) hk21 rfl (Nat.le_of_ble_eq_true rfl) (Nat.le_of_ble_eq_true rfl) (v := .long (s.2.2.1 1003 b18)) rfl (pc' := 41) rfl (Nat.le_of_ble_eq_true rfl) (Nat.le_of_ble_eq_true rfl) ?_
          refine am_steps ok_In_isLastTooMany 2 (x' := (if (0 : Int32) ≤ (lg_cmp (s.2.2.1 1009 b18) (s.2.2.1 1003 b18)) then 47 else 45, [some (.ref v0), some (.int v1), some (.int v2), some (.ref b18)], [], h, 0, 0)) rfl (Nat.le_of_ble_eq_true rfl) (Nat.le_of_ble_eq_true rfl) ?_
          refine am_if (fun hc23 => ?_) (fun hc23 => ?_)
          · rw [if_pos hc23] at hd
            refine am_steps ok_In_isLastTooMany 2 (x' := (2, [some (.ref v0), some (.int v1), some (.int (v2 + 1)), some (.ref b18)], [], h, 0, 0)) rfl (Nat.le_of_ble_eq_true rfl) (Nat.le_of_ble_eq_true rfl) ?_
            refine am_drop 3 ?_
            exact ih v0 v1 (v2 + 1) hv0 q hd
          · rw [if_neg hc23] at hd
            refine am_steps ok_In_isLastTooMany 1 (x' := (46, [some (.ref v0), some (.int v1), some (.int v2), some (.ref b18)], [.int 1], h, 0, 0)) rfl (Nat.le_of_ble_eq_true rfl) (Nat.le_of_ble_eq_true rfl) ?_
            cases hd; exact am_ret ok_In_isLastTooMany rfl (Nat.le_of_ble_eq_true rfl) (Nat.le_of_ble_eq_true rfl) ⟨rfl, rfl⟩
def h_In_isLastTooMany (a : Nat) (b : Int32) (S : hS) : Option (Int32) := hl_In_isLastTooMany_2 100000 a b 0 S
set_option maxHeartbeats 4000000 in
set_option maxRecDepth 100000 in
theorem c_In_isLastTooMany (a : Nat) (b : Int32) (S : hS) (h0 : am_H) (hR : RH S h0) (ha : hK S.1 a 7) (q : Int32) (hd : h_In_isLastTooMany a b S = some q) : am_Me am_Pr none 1 21 0 0 177 [.ref a, .int b] h0 (am_is (some (.int q)) h0) := by
  refine am_enter (d := hd_In_isLastTooMany) rfl (by decide +kernel) (Nat.le_of_ble_eq_true rfl) ?_
  show am_S _ _ _ _ _ _ _ (0, [some (.ref a), some (.int b), none, none], [], h0, 0, 0) _
  unfold h_In_isLastTooMany at hd
  refine am_steps ok_In_isLastTooMany 2 (x' := (2, [some (.ref a), some (.int b), some (.int 0), none], [], h0, 0, 0)) rfl (Nat.le_of_ble_eq_true rfl) (Nat.le_of_ble_eq_true rfl) ?_
  exact Lc_In_isLastTooMany_2 S h0 hR 100000 a b 0 ha q hd
def hl_In_leaveTrial_7 : Nat → Nat → Int32 → hS → Option (hS)
  | 0, _, _, _ => none
  | fu + 1, v0, v1, s => if ((s.2.1 710 v0) : Int32) ≤ v1 then (some s) else (((s.2.2.2.1 708 v0)).bind fun b6 => ((am_ix v1 (hln s.1 b6)).bind fun j10 => (((s.2.2.2.2.2.2 b6 j10)).bind fun b13 => (((s.2.2.2.1 709 v0)).bind fun b17 => ((am_ix v1 (hln s.1 b17)).bind fun j21 => (hl_In_leaveTrial_7 fu v0 (v1 + 1) (hpL s 1009 b13 ((s.2.2.1 1009 b13) - (s.2.2.2.2.2.1 b17 j21)))))))))
set_option maxHeartbeats 4000000 in
set_option maxRecDepth 100000 in
theorem Lc_In_leaveTrial_7 {Q : Option Value → am_H → Prop} (sh0 : List (Nat × Nat)) (h0 : am_H) : ∀ (fu : Nat) (v0 : Nat) (v1 : Int32) (s : hS) (h : am_H), RH s h → hF h0 h → hE sh0 s.1 → (hK s.1 v0 7) → ∀ q : hS, hl_In_leaveTrial_7 fu v0 v1 s = some q → (∀ h' : am_H, RH q h' → hF h0 h' → hE sh0 q.1 → am_S am_Pr none 0 0 0 0 180 (41, [some (.ref v0), none], [], h', 0, 0) Q) → am_S am_Pr none 0 0 0 0 180 (7, [some (.ref v0), some (.int v1)], [], h, 0, 0) Q := by
  intro fu
  induction fu with
  | zero => intro v0 v1 s h hR f he hv0 q hd; cases hd
  | succ fu ih =>
    intro v0 v1 s h hR f he hv0 q hd kk
    unfold hl_In_leaveTrial_7 at hd
    refine am_steps ok_In_leaveTrial 2 (x' := (9, [some (.ref v0), some (.int v1)], [.ref v0, .int v1], h, 0, 0)) rfl (Nat.le_of_ble_eq_true rfl) (Nat.le_of_ble_eq_true rfl) ?_
    refine hr_get ok_In_leaveTrial rfl hR (kd := 7) hv0 rfl (Nat.le_of_ble_eq_true rfl) (Nat.le_of_ble_eq_true rfl) (v := .int (s.2.1 710 v0)) rfl (pc' := 12) rfl (Nat.le_of_ble_eq_true rfl) (Nat.le_of_ble_eq_true rfl) ?_
    refine am_steps ok_In_leaveTrial 1 (x' := (if ((s.2.1 710 v0) : Int32) ≤ v1 then 41 else 15, [some (.ref v0), some (.int v1)], [], h, 0, 0)) rfl (Nat.le_of_ble_eq_true rfl) (Nat.le_of_ble_eq_true rfl) ?_
    refine am_if (fun hc5 => ?_) (fun hc5 => ?_)
    · rw [if_pos hc5] at hd
      refine am_drop 1 ?_
      cases hd; exact kk h hR f he 
    · rw [if_neg hc5] at hd
      refine am_steps ok_In_leaveTrial 1 (x' := (16, [some (.ref v0), some (.int v1)], [.ref v0], h, 0, 0)) rfl (Nat.le_of_ble_eq_true rfl) (Nat.le_of_ble_eq_true rfl) ?_
      refine hr_get ok_In_leaveTrial rfl hR (kd := 7) hv0 rfl (Nat.le_of_ble_eq_true rfl) (Nat.le_of_ble_eq_true rfl) (v := va_rf (s.2.2.2.1 708 v0)) rfl (pc' := 19) rfl (Nat.le_of_ble_eq_true rfl) (Nat.le_of_ble_eq_true rfl) ?_
      refine am_steps ok_In_leaveTrial 1 (x' := (20, [some (.ref v0), some (.int v1)], [.int v1, va_rf (s.2.2.2.1 708 v0)], h, 0, 0)) rfl (Nat.le_of_ble_eq_true rfl) (Nat.le_of_ble_eq_true rfl) ?_
      obtain ⟨b6, hb7, hd8⟩ := Option.bind_eq_some_iff.mp hd; clear hd; have hd := hd8; clear hd8
      have hk9 := (fun b hb => hR.2.2.1 708 _ b hb) b6 hb7
      rw [hb7]
      show am_S _ _ _ _ _ _ _ (20, [some (.ref v0), some (.int v1)], [.int v1, .ref b6], h, 0, 0) _
      obtain ⟨j10, hx11, hd12⟩ := Option.bind_eq_some_iff.mp hd; clear hd; have hd := hd12; clear hd12
      refine hr_aald ok_In_leaveTrial rfl hR (kd := 26) hk9 (by decide) rfl hx11 (pc' := 21) rfl (Nat.le_of_ble_eq_true rfl) (Nat.le_of_ble_eq_true rfl) ?_
      obtain ⟨b13, hb14, hd15⟩ := Option.bind_eq_some_iff.mp hd; clear hd; have hd := hd15; clear hd15
      have hk16 := (fun b hb => hR.2.2.2.1 _ _ (hK.ln hk9) _ b hb) b13 hb14
      rw [hb14]
      show am_S _ _ _ _ _ _ _ (21, [some (.ref v0), some (.int v1)], [.ref b13], h, 0, 0) _
      refine am_steps ok_In_leaveTrial 1 (x' := (22, [some (.ref v0), some (.int v1)], [.ref b13, .ref b13], h, 0, 0)) rfl (Nat.le_of_ble_eq_true rfl) (Nat.le_of_ble_eq_true rfl) ?_
      refine hr_get ok_In_leaveTrial rfl hR (kd := 10) hk16 rfl (Nat.le_of_ble_eq_true rfl) (Nat.le_of_ble_eq_true rfl) (v := .long (s.2.2.1 1009 b13)) rfl (pc' := 25) rfl (Nat.le_of_ble_eq_true rfl) (Nat.le_of_ble_eq_true rfl) ?_
      refine am_steps ok_In_leaveTrial 1 (x' := (26, [some (.ref v0), some (.int v1)], [.ref v0, .long (s.2.2.1 1009 b13), .ref b13], h, 0, 0)) rfl (Nat.le_of_ble_eq_true rfl) (Nat.le_of_ble_eq_true rfl) ?_
      refine hr_get ok_In_leaveTrial rfl hR (kd := 7) hv0 rfl (Nat.le_of_ble_eq_true rfl) (Nat.le_of_ble_eq_true rfl) (v := va_rf (s.2.2.2.1 709 v0)) rfl (pc' := 29) rfl (Nat.le_of_ble_eq_true rfl) (Nat.le_of_ble_eq_true rfl) ?_
      refine am_steps ok_In_leaveTrial 1 (x' := (30, [some (.ref v0), some (.int v1)], [.int v1, va_rf (s.2.2.2.1 709 v0), .long (s.2.2.1 1009 b13), .ref b13], h, 0, 0)) rfl (Nat.le_of_ble_eq_true rfl) (Nat.le_of_ble_eq_true rfl) ?_
      obtain ⟨b17, hb18, hd19⟩ := Option.bind_eq_some_iff.mp hd; clear hd; have hd := hd19; clear hd19
      have hk20 := (fun b hb => hR.2.2.1 709 _ b hb) b17 hb18
      rw [hb18]
      show am_S _ _ _ _ _ _ _ (30, [some (.ref v0), some (.int v1)], [.int v1, .ref b17, .long (s.2.2.1 1009 b13), .ref b13], h, 0, 0) _
      obtain ⟨j21, hx22, hd23⟩ := Option.bind_eq_some_iff.mp hd; clear hd; have hd := hd23; clear hd23
      refine hr_lald ok_In_leaveTrial rfl hR hk20 rfl hx22 (pc' := 31) rfl (Nat.le_of_ble_eq_true rfl) (Nat.le_of_ble_eq_true rfl) ?_
      refine am_steps ok_In_leaveTrial 1 (x' := (32, [some (.ref v0), some (.int v1)], [.long ((s.2.2.1 1009 b13) - (s.2.2.2.2.2.1 b17 j21)), .ref b13], h, 0, 0)) rfl (Nat.le_of_ble_eq_true rfl) (Nat.le_of_ble_eq_true rfl) ?_
      refine hr_put ok_In_leaveTrial rfl hR (kd := 10) hk16 rfl (Nat.le_of_ble_eq_true rfl) (Nat.le_of_ble_eq_true rfl) rfl (S' := (hpL s 1009 b13 ((s.2.2.1 1009 b13) - (s.2.2.2.2.2.1 b17 j21)))) rfl (hWT.up hR.2.2 rfl rfl rfl) (pc' := 35) rfl (Nat.le_of_ble_eq_true rfl) (Nat.le_of_ble_eq_true rfl) (fun h24 hR25 g26 => ?_)
      have f27 := hF.tr f g26
      refine am_steps ok_In_leaveTrial 2 (x' := (7, [some (.ref v0), some (.int (v1 + 1))], [], h24, 0, 0)) rfl (Nat.le_of_ble_eq_true rfl) (Nat.le_of_ble_eq_true rfl) ?_
      exact ih v0 (v1 + 1) (hpL s 1009 b13 ((s.2.2.1 1009 b13) - (s.2.2.2.2.2.1 b17 j21))) h24 hR25 f27 he hv0 q hd kk
def h_In_leaveTrial (a : Nat) (S : hS) : Option (hS) := (hl_In_leaveTrial_7 100000 a 0 (hpI S 705 a 0)).bind fun q28 => (some q28)
set_option maxHeartbeats 4000000 in
set_option maxRecDepth 100000 in
theorem c_In_leaveTrial (a : Nat) (S : hS) (h0 : am_H) (hR : RH S h0) (ha : hK S.1 a 7) (q : hS) (hd : h_In_leaveTrial a S = some q) : am_Me am_Pr none 0 0 0 0 180 [.ref a] h0 (hQv q S.1 h0) := by
  refine am_enter (d := hd_In_leaveTrial) rfl (by decide +kernel) (Nat.le_of_ble_eq_true rfl) ?_
  show am_S _ _ _ _ _ _ _ (0, [some (.ref a), none], [], h0, 0, 0) _
  unfold h_In_leaveTrial at hd
  refine am_steps ok_In_leaveTrial 2 (x' := (2, [some (.ref a), none], [.int 0, .ref a], h0, 0, 0)) rfl (Nat.le_of_ble_eq_true rfl) (Nat.le_of_ble_eq_true rfl) ?_
  refine hr_put ok_In_leaveTrial rfl hR (kd := 7) ha rfl (Nat.le_of_ble_eq_true rfl) (Nat.le_of_ble_eq_true rfl) rfl (S' := (hpI S 705 a 0)) rfl (hWT.up hR.2.2 rfl rfl rfl) (pc' := 5) rfl (Nat.le_of_ble_eq_true rfl) (Nat.le_of_ble_eq_true rfl) (fun h1 hR2 g3 => ?_)
  have f4 := hF.tr hF.rf g3
  refine am_steps ok_In_leaveTrial 2 (x' := (7, [some (.ref a), some (.int 0)], [], h1, 0, 0)) rfl (Nat.le_of_ble_eq_true rfl) (Nat.le_of_ble_eq_true rfl) ?_
  obtain ⟨q28, hq29, hd30⟩ := Option.bind_eq_some_iff.mp hd; clear hd; have hd := hd30; clear hd30
  refine Lc_In_leaveTrial_7 S.1 h0 100000 a 0 (hpI S 705 a 0) h1 hR2 f4 hE.rf ha q28 hq29 (fun h31 hR32 f33 e34 => ?_)
  show am_S _ _ _ _ _ _ _ (41, [some (.ref a), none], [], h31, 0, 0) _
  cases hd; exact am_ret ok_In_leaveTrial rfl (Nat.le_of_ble_eq_true rfl) (Nat.le_of_ble_eq_true rfl) ⟨rfl, hR32, f33, (hE.rf.tr e34)⟩
def hl_In_markTaken_2 : Nat → Nat → Int32 → Int32 → hS → Option (hS)
  | 0, _, _, _, _ => none
  | fu + 1, v0, v1, v2, s => if ((s.2.1 710 v0) : Int32) ≤ v2 then (some s) else ((h_In_takes v0 v2 s).bind fun q2 => ((if (q2 : Int32) = 0 then (some s) else (((s.2.2.2.1 708 v0)).bind fun b19 => ((am_ix v2 (hln s.1 b19)).bind fun j23 => (((s.2.2.2.2.2.2 b19 j23)).bind fun b26 => (some (hpI s 1008 b26 v1)))))).bind fun (u10 : hS) => (hl_In_markTaken_2 fu v0 v1 (v2 + 1) u10)))
set_option maxHeartbeats 4000000 in
set_option maxRecDepth 100000 in
theorem Lc_In_markTaken_2 {Q : Option Value → am_H → Prop} (sh0 : List (Nat × Nat)) (h0 : am_H) : ∀ (fu : Nat) (v0 : Nat) (v1 : Int32) (v2 : Int32) (s : hS) (h : am_H), RH s h → hF h0 h → hE sh0 s.1 → (hK s.1 v0 7) → ∀ q : hS, hl_In_markTaken_2 fu v0 v1 v2 s = some q → (∀ h' : am_H, RH q h' → hF h0 h' → hE sh0 q.1 → am_S am_Pr none 1 21 0 0 175 (34, [some (.ref v0), some (.int v1), none], [], h', 0, 0) Q) → am_S am_Pr none 1 21 0 0 175 (2, [some (.ref v0), some (.int v1), some (.int v2)], [], h, 0, 0) Q := by
  intro fu
  induction fu with
  | zero => intro v0 v1 v2 s h hR f he hv0 q hd; cases hd
  | succ fu ih =>
    intro v0 v1 v2 s h hR f he hv0 q hd kk
    unfold hl_In_markTaken_2 at hd
    refine am_steps ok_In_markTaken 2 (x' := (4, [some (.ref v0), some (.int v1), some (.int v2)], [.ref v0, .int v2], h, 0, 0)) rfl (Nat.le_of_ble_eq_true rfl) (Nat.le_of_ble_eq_true rfl) ?_
    refine hr_get ok_In_markTaken rfl hR (kd := 7) hv0 rfl (Nat.le_of_ble_eq_true rfl) (Nat.le_of_ble_eq_true rfl) (v := .int (s.2.1 710 v0)) rfl (pc' := 7) rfl (Nat.le_of_ble_eq_true rfl) (Nat.le_of_ble_eq_true rfl) ?_
    refine am_steps ok_In_markTaken 1 (x' := (if ((s.2.1 710 v0) : Int32) ≤ v2 then 34 else 10, [some (.ref v0), some (.int v1), some (.int v2)], [], h, 0, 0)) rfl (Nat.le_of_ble_eq_true rfl) (Nat.le_of_ble_eq_true rfl) ?_
    refine am_if (fun hc1 => ?_) (fun hc1 => ?_)
    · rw [if_pos hc1] at hd
      refine am_drop 2 ?_
      cases hd; exact kk h hR f he 
    · rw [if_neg hc1] at hd
      refine am_steps ok_In_markTaken 2 (x' := (12, [some (.ref v0), some (.int v1), some (.int v2)], [.int v2, .ref v0], h, 0, 0)) rfl (Nat.le_of_ble_eq_true rfl) (Nat.le_of_ble_eq_true rfl) ?_
      obtain ⟨q2, hq3, hd4⟩ := Option.bind_eq_some_iff.mp hd; clear hd; have hd := hd4; clear hd4
      refine ar_cv ok_In_markTaken hk_In_takes rfl rfl (As := [.int v2]) (ad := v0) (rest := []) rfl rfl (hR.ob hv0 (Nat.le_of_ble_eq_true rfl)) (Nat.le_of_ble_eq_true rfl) (c_In_takes v0 v2 s h hR hv0 q2 hq3) (Nat.le_of_ble_eq_true rfl) (Nat.le_of_ble_eq_true rfl) (Nat.le_of_ble_eq_true rfl) (Nat.le_of_ble_eq_true rfl) (pc' := 15) rfl (fun r5 h7 z6 => ?_)
      obtain ⟨rfl, z9⟩ := z6; rw [z9]
      show am_S _ _ _ _ _ _ _ (15, [some (.ref v0), some (.int v1), some (.int v2)], [.int q2], h, 0, 0) _
      refine am_steps ok_In_markTaken 1 (x' := (if (q2 : Int32) = 0 then 28 else 18, [some (.ref v0), some (.int v1), some (.int v2)], [], h, 0, 0)) rfl (Nat.le_of_ble_eq_true rfl) (Nat.le_of_ble_eq_true rfl) ?_
      obtain ⟨u10, hA12, hB13⟩ := Option.bind_eq_some_iff.mp hd; clear hd
      have K11 : ∀ h' : am_H, RH u10 h' → hF h0 h' → hE s.1 u10.1 → am_S am_Pr none 1 21 0 0 175 (28, [some (.ref v0), some (.int v1), some (.int v2)], [], h', 0, 0) Q := by
        have hd := hB13
        intro h14 hR15 f16 e17
        refine am_steps ok_In_markTaken 2 (x' := (2, [some (.ref v0), some (.int v1), some (.int (v2 + 1))], [], h14, 0, 0)) rfl (Nat.le_of_ble_eq_true rfl) (Nat.le_of_ble_eq_true rfl) ?_
        exact ih v0 v1 (v2 + 1) u10 h14 hR15 f16 (he.tr e17) (hv0.up e17) q hd kk
      clear hB13; have hd := hA12; clear hA12
      refine am_if (fun hc18 => ?_) (fun hc18 => ?_)
      · rw [if_pos hc18] at hd
        cases hd; exact K11 h hR f hE.rf
      · rw [if_neg hc18] at hd
        refine am_steps ok_In_markTaken 1 (x' := (19, [some (.ref v0), some (.int v1), some (.int v2)], [.ref v0], h, 0, 0)) rfl (Nat.le_of_ble_eq_true rfl) (Nat.le_of_ble_eq_true rfl) ?_
        refine hr_get ok_In_markTaken rfl hR (kd := 7) hv0 rfl (Nat.le_of_ble_eq_true rfl) (Nat.le_of_ble_eq_true rfl) (v := va_rf (s.2.2.2.1 708 v0)) rfl (pc' := 22) rfl (Nat.le_of_ble_eq_true rfl) (Nat.le_of_ble_eq_true rfl) ?_
        refine am_steps ok_In_markTaken 1 (x' := (23, [some (.ref v0), some (.int v1), some (.int v2)], [.int v2, va_rf (s.2.2.2.1 708 v0)], h, 0, 0)) rfl (Nat.le_of_ble_eq_true rfl) (Nat.le_of_ble_eq_true rfl) ?_
        obtain ⟨b19, hb20, hd21⟩ := Option.bind_eq_some_iff.mp hd; clear hd; have hd := hd21; clear hd21
        have hk22 := (fun b hb => hR.2.2.1 708 _ b hb) b19 hb20
        rw [hb20]
        show am_S _ _ _ _ _ _ _ (23, [some (.ref v0), some (.int v1), some (.int v2)], [.int v2, .ref b19], h, 0, 0) _
        obtain ⟨j23, hx24, hd25⟩ := Option.bind_eq_some_iff.mp hd; clear hd; have hd := hd25; clear hd25
        refine hr_aald ok_In_markTaken rfl hR (kd := 26) hk22 (by decide) rfl hx24 (pc' := 24) rfl (Nat.le_of_ble_eq_true rfl) (Nat.le_of_ble_eq_true rfl) ?_
        refine am_steps ok_In_markTaken 1 (x' := (25, [some (.ref v0), some (.int v1), some (.int v2)], [.int v1, va_rf (s.2.2.2.2.2.2 b19 j23)], h, 0, 0)) rfl (Nat.le_of_ble_eq_true rfl) (Nat.le_of_ble_eq_true rfl) ?_
        obtain ⟨b26, hb27, hd28⟩ := Option.bind_eq_some_iff.mp hd; clear hd; have hd := hd28; clear hd28
        have hk29 := (fun b hb => hR.2.2.2.1 _ _ (hK.ln hk22) _ b hb) b26 hb27
        rw [hb27]
        show am_S _ _ _ _ _ _ _ (25, [some (.ref v0), some (.int v1), some (.int v2)], [.int v1, .ref b26], h, 0, 0) _
        refine hr_put ok_In_markTaken rfl hR (kd := 10) hk29 rfl (Nat.le_of_ble_eq_true rfl) (Nat.le_of_ble_eq_true rfl) rfl (S' := (hpI s 1008 b26 v1)) rfl (hWT.up hR.2.2 rfl rfl rfl) (pc' := 28) rfl (Nat.le_of_ble_eq_true rfl) (Nat.le_of_ble_eq_true rfl) (fun h30 hR31 g32 => ?_)
        have f33 := hF.tr f g32
        cases hd; exact K11 h30 hR31 f33 hE.rf
def h_In_markTaken (a : Nat) (b : Int32) (S : hS) : Option (hS) := (hl_In_markTaken_2 100000 a b 0 S).bind fun q34 => (some q34)
set_option maxHeartbeats 4000000 in
set_option maxRecDepth 100000 in
theorem c_In_markTaken (a : Nat) (b : Int32) (S : hS) (h0 : am_H) (hR : RH S h0) (ha : hK S.1 a 7) (q : hS) (hd : h_In_markTaken a b S = some q) : am_Me am_Pr none 1 21 0 0 175 [.ref a, .int b] h0 (hQv q S.1 h0) := by
  refine am_enter (d := hd_In_markTaken) rfl (by decide +kernel) (Nat.le_of_ble_eq_true rfl) ?_
  show am_S _ _ _ _ _ _ _ (0, [some (.ref a), some (.int b), none], [], h0, 0, 0) _
  unfold h_In_markTaken at hd
  refine am_steps ok_In_markTaken 2 (x' := (2, [some (.ref a), some (.int b), some (.int 0)], [], h0, 0, 0)) rfl (Nat.le_of_ble_eq_true rfl) (Nat.le_of_ble_eq_true rfl) ?_
  obtain ⟨q34, hq35, hd36⟩ := Option.bind_eq_some_iff.mp hd; clear hd; have hd := hd36; clear hd36
  refine Lc_In_markTaken_2 S.1 h0 100000 a b 0 S h0 hR hF.rf hE.rf ha q34 hq35 (fun h37 hR38 f39 e40 => ?_)
  show am_S _ _ _ _ _ _ _ (34, [some (.ref a), some (.int b), none], [], h37, 0, 0) _
  cases hd; exact am_ret ok_In_markTaken rfl (Nat.le_of_ble_eq_true rfl) (Nat.le_of_ble_eq_true rfl) ⟨rfl, hR38, f39, (hE.rf.tr e40)⟩
def hl_Qu_dropTooMany_19 : Nat → Int32 → Int32 → hS → Option (Int32 × hS)
  | 0, _, _, _ => none
  | fu + 1, v1, v2, s => if (v2 : Int32) < 0 then (some (v1, s)) else ((am_ix v2 250).bind fun j6 => (((s.2.2.2.2.2.2 17 j6)).bind fun b9 => ((if ((s.2.1 705 b9) : Int32) = 0 then (if ((s.2.1 705 b9) : Int32) = 0 then (some (v1, s)) else ((h_In_markTaken b9 (s.2.1 1106 16) s).bind fun q23 => (some (v1, q23)))) else ((h_In_isLastTooMany b9 (s.2.1 1106 16) s).bind fun q34 => (if (q34 : Int32) = 0 then (if ((s.2.1 705 b9) : Int32) = 0 then (some (v1, s)) else ((h_In_markTaken b9 (s.2.1 1106 16) s).bind fun q44 => (some (v1, q44)))) else ((h_In_leaveTrial b9 s).bind fun q55 => (some (1, q55)))))).bind fun (u13 : Int32 × hS) => (hl_Qu_dropTooMany_19 fu u13.1 (v2 + (-1)) u13.2))))
set_option maxHeartbeats 4000000 in
set_option maxRecDepth 100000 in
theorem Lc_Qu_dropTooMany_19 {Q : Option Value → am_H → Prop} (sh0 : List (Nat × Nat)) (h0 : am_H) : ∀ (fu : Nat) (v1 : Int32) (v2 : Int32) (s : hS) (h : am_H), RH s h → hF h0 h → hE sh0 s.1 → ∀ q : Int32 × hS, hl_Qu_dropTooMany_19 fu v1 v2 s = some q → (∀ h' : am_H, RH q.2 h' → hF h0 h' → hE sh0 q.2.1 → am_S am_Pr none 2 44 0 0 220 (78, [some (.ref 16), some (.int q.1), none, none], [], h', 0, 0) Q) → am_S am_Pr none 2 44 0 0 220 (19, [some (.ref 16), some (.int v1), some (.int v2), none], [], h, 0, 0) Q := by
  intro fu
  induction fu with
  | zero => intro v1 v2 s h hR f he  q hd; cases hd
  | succ fu ih =>
    intro v1 v2 s h hR f he  q hd kk
    unfold hl_Qu_dropTooMany_19 at hd
    refine am_steps ok_Qu_dropTooMany 2 (x' := (if (v2 : Int32) < 0 then 78 else 23, [some (.ref 16), some (.int v1), some (.int v2), none], [], h, 0, 0)) rfl (Nat.le_of_ble_eq_true rfl) (Nat.le_of_ble_eq_true rfl) ?_
    refine am_if (fun hc5 => ?_) (fun hc5 => ?_)
    · rw [if_pos hc5] at hd
      refine am_drop 2 ?_
      cases hd; exact kk h hR f he 
    · rw [if_neg hc5] at hd
      refine am_steps ok_Qu_dropTooMany 1 (x' := (24, [some (.ref 16), some (.int v1), some (.int v2), none], [.ref 16], h, 0, 0)) rfl (Nat.le_of_ble_eq_true rfl) (Nat.le_of_ble_eq_true rfl) ?_
      refine hr_get ok_Qu_dropTooMany rfl hR (kd := 11) (hs_k hR (a := 16) rfl) rfl (Nat.le_of_ble_eq_true rfl) (Nat.le_of_ble_eq_true rfl) (v := .ref 17) (congrArg va_rf (hR.2.2.2.2.1 (1100, 16, 17) (by decide))) (pc' := 27) rfl (Nat.le_of_ble_eq_true rfl) (Nat.le_of_ble_eq_true rfl) ?_
      refine am_steps ok_Qu_dropTooMany 1 (x' := (28, [some (.ref 16), some (.int v1), some (.int v2), none], [.int v2, .ref 17], h, 0, 0)) rfl (Nat.le_of_ble_eq_true rfl) (Nat.le_of_ble_eq_true rfl) ?_
      obtain ⟨j6, hx7, hd8⟩ := Option.bind_eq_some_iff.mp hd; clear hd; have hd := hd8; clear hd8
      refine hr_aald ok_Qu_dropTooMany rfl hR (kd := 27) (hs_k hR (a := 17) rfl) (by decide) (hs_ln hR rfl) hx7 (pc' := 29) rfl (Nat.le_of_ble_eq_true rfl) (Nat.le_of_ble_eq_true rfl) ?_
      refine hr_astoren ok_Qu_dropTooMany rfl (Nat.le_of_ble_eq_true rfl) (lo' := [some (.ref 16), some (.int v1), some (.int v2), some (va_rf (s.2.2.2.2.2.2 17 j6))]) rfl (pc' := 30) rfl (Nat.le_of_ble_eq_true rfl) (Nat.le_of_ble_eq_true rfl) ?_
      refine hr_aloadn ok_Qu_dropTooMany rfl rfl (pc' := 31) rfl (Nat.le_of_ble_eq_true rfl) (Nat.le_of_ble_eq_true rfl) ?_
      obtain ⟨b9, hb10, hd11⟩ := Option.bind_eq_some_iff.mp hd; clear hd; have hd := hd11; clear hd11
      have hk12 := (fun b hb => hR.2.2.2.1 _ _ (hK.ln (hs_k hR (a := 17) rfl)) _ b hb) b9 hb10
      rw [hb10]
      show am_S _ _ _ _ _ _ _ (31, [some (.ref 16), some (.int v1), some (.int v2), some (.ref b9)], [.ref b9], h, 0, 0) _
      refine hr_get ok_Qu_dropTooMany rfl hR (kd := 7) hk12 rfl (Nat.le_of_ble_eq_true rfl) (Nat.le_of_ble_eq_true rfl) (v := .int (s.2.1 705 b9)) rfl (pc' := 34) rfl (Nat.le_of_ble_eq_true rfl) (Nat.le_of_ble_eq_true rfl) ?_
      refine am_steps ok_Qu_dropTooMany 1 (x' := (if ((s.2.1 705 b9) : Int32) = 0 then 57 else 37, [some (.ref 16), some (.int v1), some (.int v2), some (.ref b9)], [], h, 0, 0)) rfl (Nat.le_of_ble_eq_true rfl) (Nat.le_of_ble_eq_true rfl) ?_
      obtain ⟨u13, hA15, hB16⟩ := Option.bind_eq_some_iff.mp hd; clear hd
      have K14 : ∀ h' : am_H, RH u13.2 h' → hF h0 h' → hE s.1 u13.2.1 → am_S am_Pr none 2 44 0 0 220 (72, [some (.ref 16), some (.int u13.1), some (.int v2), none], [], h', 0, 0) Q := by
        have hd := hB16
        intro h17 hR18 f19 e20
        refine am_steps ok_Qu_dropTooMany 2 (x' := (19, [some (.ref 16), some (.int u13.1), some (.int (v2 + (-1))), none], [], h17, 0, 0)) rfl (Nat.le_of_ble_eq_true rfl) (Nat.le_of_ble_eq_true rfl) ?_
        exact ih u13.1 (v2 + (-1)) u13.2 h17 hR18 f19 (he.tr e20)  q hd kk
      clear hB16; have hd := hA15; clear hA15
      refine am_if (fun hc21 => ?_) (fun hc21 => ?_)
      · rw [if_pos hc21] at hd
        refine am_steps ok_Qu_dropTooMany 1 (x' := (58, [some (.ref 16), some (.int v1), some (.int v2), some (.ref b9)], [.ref b9], h, 0, 0)) rfl (Nat.le_of_ble_eq_true rfl) (Nat.le_of_ble_eq_true rfl) ?_
        refine hr_get ok_Qu_dropTooMany rfl hR (kd := 7) hk12 rfl (Nat.le_of_ble_eq_true rfl) (Nat.le_of_ble_eq_true rfl) (v := .int (s.2.1 705 b9)) rfl (pc' := 61) rfl (Nat.le_of_ble_eq_true rfl) (Nat.le_of_ble_eq_true rfl) ?_
        refine am_steps ok_Qu_dropTooMany 1 (x' := (if ((s.2.1 705 b9) : Int32) = 0 then 72 else 64, [some (.ref 16), some (.int v1), some (.int v2), some (.ref b9)], [], h, 0, 0)) rfl (Nat.le_of_ble_eq_true rfl) (Nat.le_of_ble_eq_true rfl) ?_
        refine am_if (fun hc22 => ?_) (fun hc22 => ?_)
        · rw [if_pos hc22] at hd
          refine am_drop 3 ?_
          cases hd; exact K14 h hR f hE.rf
        · rw [if_neg hc22] at hd
          refine am_steps ok_Qu_dropTooMany 2 (x' := (66, [some (.ref 16), some (.int v1), some (.int v2), some (.ref b9)], [.ref 16, .ref b9], h, 0, 0)) rfl (Nat.le_of_ble_eq_true rfl) (Nat.le_of_ble_eq_true rfl) ?_
          refine hr_get ok_Qu_dropTooMany rfl hR (kd := 11) (hs_k hR (a := 16) rfl) rfl (Nat.le_of_ble_eq_true rfl) (Nat.le_of_ble_eq_true rfl) (v := .int (s.2.1 1106 16)) rfl (pc' := 69) rfl (Nat.le_of_ble_eq_true rfl) (Nat.le_of_ble_eq_true rfl) ?_
          obtain ⟨q23, hq24, hd25⟩ := Option.bind_eq_some_iff.mp hd; clear hd; have hd := hd25; clear hd25
          refine ar_cv ok_Qu_dropTooMany hk_In_markTaken rfl rfl (As := [.int (s.2.1 1106 16)]) (ad := b9) (rest := []) rfl rfl (hR.ob hk12 (Nat.le_of_ble_eq_true rfl)) (Nat.le_of_ble_eq_true rfl) (c_In_markTaken b9 (s.2.1 1106 16) s h hR hk12 q23 hq24) (Nat.le_of_ble_eq_true rfl) (Nat.le_of_ble_eq_true rfl) (Nat.le_of_ble_eq_true rfl) (Nat.le_of_ble_eq_true rfl) (pc' := 72) rfl (fun r26 h28 z27 => ?_)
          obtain ⟨rfl, hR30, g31, e32⟩ := z27
          have f33 := hF.tr f g31
          show am_S _ _ _ _ _ _ _ (72, [some (.ref 16), some (.int v1), some (.int v2), some (.ref b9)], [], h28, 0, 0) _
          refine am_drop 3 ?_
          cases hd; exact K14 h28 hR30 f33 e32
      · rw [if_neg hc21] at hd
        refine am_steps ok_Qu_dropTooMany 2 (x' := (39, [some (.ref 16), some (.int v1), some (.int v2), some (.ref b9)], [.ref 16, .ref b9], h, 0, 0)) rfl (Nat.le_of_ble_eq_true rfl) (Nat.le_of_ble_eq_true rfl) ?_
        refine hr_get ok_Qu_dropTooMany rfl hR (kd := 11) (hs_k hR (a := 16) rfl) rfl (Nat.le_of_ble_eq_true rfl) (Nat.le_of_ble_eq_true rfl) (v := .int (s.2.1 1106 16)) rfl (pc' := 42) rfl (Nat.le_of_ble_eq_true rfl) (Nat.le_of_ble_eq_true rfl) ?_
        obtain ⟨q34, hq35, hd36⟩ := Option.bind_eq_some_iff.mp hd; clear hd; have hd := hd36; clear hd36
        refine ar_cv ok_Qu_dropTooMany hk_In_isLastTooMany rfl rfl (As := [.int (s.2.1 1106 16)]) (ad := b9) (rest := []) rfl rfl (hR.ob hk12 (Nat.le_of_ble_eq_true rfl)) (Nat.le_of_ble_eq_true rfl) (c_In_isLastTooMany b9 (s.2.1 1106 16) s h hR hk12 q34 hq35) (Nat.le_of_ble_eq_true rfl) (Nat.le_of_ble_eq_true rfl) (Nat.le_of_ble_eq_true rfl) (Nat.le_of_ble_eq_true rfl) (pc' := 45) rfl (fun r37 h39 z38 => ?_)
        obtain ⟨rfl, z41⟩ := z38; rw [z41]
        show am_S _ _ _ _ _ _ _ (45, [some (.ref 16), some (.int v1), some (.int v2), some (.ref b9)], [.int q34], h, 0, 0) _
        refine am_steps ok_Qu_dropTooMany 1 (x' := (if (q34 : Int32) = 0 then 57 else 48, [some (.ref 16), some (.int v1), some (.int v2), some (.ref b9)], [], h, 0, 0)) rfl (Nat.le_of_ble_eq_true rfl) (Nat.le_of_ble_eq_true rfl) ?_
        refine am_if (fun hc42 => ?_) (fun hc42 => ?_)
        · rw [if_pos hc42] at hd
          refine am_steps ok_Qu_dropTooMany 1 (x' := (58, [some (.ref 16), some (.int v1), some (.int v2), some (.ref b9)], [.ref b9], h, 0, 0)) rfl (Nat.le_of_ble_eq_true rfl) (Nat.le_of_ble_eq_true rfl) ?_
          refine hr_get ok_Qu_dropTooMany rfl hR (kd := 7) hk12 rfl (Nat.le_of_ble_eq_true rfl) (Nat.le_of_ble_eq_true rfl) (v := .int (s.2.1 705 b9)) rfl (pc' := 61) rfl (Nat.le_of_ble_eq_true rfl) (Nat.le_of_ble_eq_true rfl) ?_
          refine am_steps ok_Qu_dropTooMany 1 (x' := (if ((s.2.1 705 b9) : Int32) = 0 then 72 else 64, [some (.ref 16), some (.int v1), some (.int v2), some (.ref b9)], [], h, 0, 0)) rfl (Nat.le_of_ble_eq_true rfl) (Nat.le_of_ble_eq_true rfl) ?_
          refine am_if (fun hc43 => ?_) (fun hc43 => ?_)
          · rw [if_pos hc43] at hd
            refine am_drop 3 ?_
            cases hd; exact K14 h hR f hE.rf
          · rw [if_neg hc43] at hd
            refine am_steps ok_Qu_dropTooMany 2 (x' := (66, [some (.ref 16), some (.int v1), some (.int v2), some (.ref b9)], [.ref 16, .ref b9], h, 0, 0)) rfl (Nat.le_of_ble_eq_true rfl) (Nat.le_of_ble_eq_true rfl) ?_
            refine hr_get ok_Qu_dropTooMany rfl hR (kd := 11) (hs_k hR (a := 16) rfl) rfl (Nat.le_of_ble_eq_true rfl) (Nat.le_of_ble_eq_true rfl) (v := .int (s.2.1 1106 16)) rfl (pc' := 69) rfl (Nat.le_of_ble_eq_true rfl) (Nat.le_of_ble_eq_true rfl) ?_
            obtain ⟨q44, hq45, hd46⟩ := Option.bind_eq_some_iff.mp hd; clear hd; have hd := hd46; clear hd46
            refine ar_cv ok_Qu_dropTooMany hk_In_markTaken rfl rfl (As := [.int (s.2.1 1106 16)]) (ad := b9) (rest := []) rfl rfl (hR.ob hk12 (Nat.le_of_ble_eq_true rfl)) (Nat.le_of_ble_eq_true rfl) (c_In_markTaken b9 (s.2.1 1106 16) s h hR hk12 q44 hq45) (Nat.le_of_ble_eq_true rfl) (Nat.le_of_ble_eq_true rfl) (Nat.le_of_ble_eq_true rfl) (Nat.le_of_ble_eq_true rfl) (pc' := 72) rfl (fun r47 h49 z48 => ?_)
            obtain ⟨rfl, hR51, g52, e53⟩ := z48
            have f54 := hF.tr f g52
            show am_S _ _ _ _ _ _ _ (72, [some (.ref 16), some (.int v1), some (.int v2), some (.ref b9)], [], h49, 0, 0) _
            refine am_drop 3 ?_
            cases hd; exact K14 h49 hR51 f54 e53
        · rw [if_neg hc42] at hd
          refine am_steps ok_Qu_dropTooMany 1 (x' := (49, [some (.ref 16), some (.int v1), some (.int v2), some (.ref b9)], [.ref b9], h, 0, 0)) rfl (Nat.le_of_ble_eq_true rfl) (Nat.le_of_ble_eq_true rfl) ?_
          obtain ⟨q55, hq56, hd57⟩ := Option.bind_eq_some_iff.mp hd; clear hd; have hd := hd57; clear hd57
          refine ar_cv ok_Qu_dropTooMany hk_In_leaveTrial rfl rfl (As := []) (ad := b9) (rest := []) rfl rfl (hR.ob hk12 (Nat.le_of_ble_eq_true rfl)) (Nat.le_of_ble_eq_true rfl) (c_In_leaveTrial b9 s h hR hk12 q55 hq56) (Nat.le_of_ble_eq_true rfl) (Nat.le_of_ble_eq_true rfl) (Nat.le_of_ble_eq_true rfl) (Nat.le_of_ble_eq_true rfl) (pc' := 52) rfl (fun r58 h60 z59 => ?_)
          obtain ⟨rfl, hR62, g63, e64⟩ := z59
          have f65 := hF.tr f g63
          show am_S _ _ _ _ _ _ _ (52, [some (.ref 16), some (.int v1), some (.int v2), some (.ref b9)], [], h60, 0, 0) _
          refine am_steps ok_Qu_dropTooMany 3 (x' := (72, [some (.ref 16), some (.int 1), some (.int v2), some (.ref b9)], [], h60, 0, 0)) rfl (Nat.le_of_ble_eq_true rfl) (Nat.le_of_ble_eq_true rfl) ?_
          refine am_drop 3 ?_
          cases hd; exact K14 h60 hR62 f65 e64
def h_Qu_dropTooMany  (S : hS) : Option (Int32 × hS) := (hl_Qu_dropTooMany_19 100000 0 ((S.2.1 1101 16) - 1) (hpI S 1106 16 ((S.2.1 1106 16) + 1))).bind fun q66 => (if q66.1 = 0 ∨ q66.1 = 1 then some (q66.1, q66.2) else none)
set_option maxHeartbeats 4000000 in
set_option maxRecDepth 100000 in
theorem c_Qu_dropTooMany  (S : hS) (h0 : am_H) (hR : RH S h0)  (q : Int32 × hS) (hd : h_Qu_dropTooMany  S = some q) : am_Me am_Pr none 2 44 0 0 220 [.ref 16] h0 (hQr (.int q.1) q.2 S.1 h0) := by
  refine am_enter (d := hd_Qu_dropTooMany) rfl (by decide +kernel) (Nat.le_of_ble_eq_true rfl) ?_
  show am_S _ _ _ _ _ _ _ (0, [some (.ref 16), none, none, none], [], h0, 0, 0) _
  unfold h_Qu_dropTooMany at hd
  refine am_steps ok_Qu_dropTooMany 2 (x' := (2, [some (.ref 16), none, none, none], [.ref 16, .ref 16], h0, 0, 0)) rfl (Nat.le_of_ble_eq_true rfl) (Nat.le_of_ble_eq_true rfl) ?_
  refine hr_get ok_Qu_dropTooMany rfl hR (kd := 11) (hs_k hR (a := 16) rfl) rfl (Nat.le_of_ble_eq_true rfl) (Nat.le_of_ble_eq_true rfl) (v := .int (S.2.1 1106 16)) rfl (pc' := 5) rfl (Nat.le_of_ble_eq_true rfl) (Nat.le_of_ble_eq_true rfl) ?_
  refine am_steps ok_Qu_dropTooMany 2 (x' := (7, [some (.ref 16), none, none, none], [.int ((S.2.1 1106 16) + 1), .ref 16], h0, 0, 0)) rfl (Nat.le_of_ble_eq_true rfl) (Nat.le_of_ble_eq_true rfl) ?_
  refine hr_put ok_Qu_dropTooMany rfl hR (kd := 11) (hs_k hR (a := 16) rfl) rfl (Nat.le_of_ble_eq_true rfl) (Nat.le_of_ble_eq_true rfl) rfl (S' := (hpI S 1106 16 ((S.2.1 1106 16) + 1))) rfl (hWT.up hR.2.2 rfl rfl rfl) (pc' := 10) rfl (Nat.le_of_ble_eq_true rfl) (Nat.le_of_ble_eq_true rfl) (fun h1 hR2 g3 => ?_)
  have f4 := hF.tr hF.rf g3
  refine am_steps ok_Qu_dropTooMany 3 (x' := (13, [some (.ref 16), some (.int 0), none, none], [.ref 16], h1, 0, 0)) rfl (Nat.le_of_ble_eq_true rfl) (Nat.le_of_ble_eq_true rfl) ?_
  refine hr_get ok_Qu_dropTooMany rfl hR2 (kd := 11) (hs_k hR2 (a := 16) rfl) rfl (Nat.le_of_ble_eq_true rfl) (Nat.le_of_ble_eq_true rfl) (v := .int (S.2.1 1101 16)) rfl (pc' := 16) rfl (Nat.le_of_ble_eq_true rfl) (Nat.le_of_ble_eq_true rfl) ?_
  refine am_steps ok_Qu_dropTooMany 3 (x' := (19, [some (.ref 16), some (.int 0), some (.int ((S.2.1 1101 16) - 1)), none], [], h1, 0, 0)) rfl (Nat.le_of_ble_eq_true rfl) (Nat.le_of_ble_eq_true rfl) ?_
  obtain ⟨q66, hq67, hd68⟩ := Option.bind_eq_some_iff.mp hd; clear hd; have hd := hd68; clear hd68
  refine Lc_Qu_dropTooMany_19 S.1 h0 100000 0 ((S.2.1 1101 16) - 1) (hpI S 1106 16 ((S.2.1 1106 16) + 1)) h1 hR2 f4 hE.rf  q66 hq67 (fun h69 hR70 f71 e72 => ?_)
  show am_S _ _ _ _ _ _ _ (78, [some (.ref 16), some (.int q66.1), none, none], [], h69, 0, 0) _
  refine am_steps ok_Qu_dropTooMany 1 (x' := (79, [some (.ref 16), some (.int q66.1), none, none], [.int q66.1], h69, 0, 0)) rfl (Nat.le_of_ble_eq_true rfl) (Nat.le_of_ble_eq_true rfl) ?_
  split at hd
  · rename_i hz; cases hd; exact am_ret ok_Qu_dropTooMany (if_pos hz) (Nat.le_of_ble_eq_true rfl) (Nat.le_of_ble_eq_true rfl) ⟨rfl, hR70, f71, (hE.rf.tr e72)⟩
  · cases hd
def hl_In_takesMarked_2 : Nat → Nat → Int32 → Int32 → hS → Option (Int32)
  | 0, _, _, _, _ => none
  | fu + 1, v0, v1, v2, s => if ((s.2.1 710 v0) : Int32) ≤ v2 then (some 0) else ((h_In_takes v0 v2 s).bind fun q2 => (if (q2 : Int32) = 0 then (hl_In_takesMarked_2 fu v0 v1 (v2 + 1) s) else (((s.2.2.2.1 708 v0)).bind fun b11 => ((am_ix v2 (hln s.1 b11)).bind fun j15 => (((s.2.2.2.2.2.2 b11 j15)).bind fun b18 => (if ¬ ((s.2.1 1008 b18) : Int32) = v1 then (hl_In_takesMarked_2 fu v0 v1 (v2 + 1) s) else (some 1)))))))
set_option maxHeartbeats 4000000 in
set_option maxRecDepth 100000 in
theorem Lc_In_takesMarked_2 (s : hS) (h : am_H) (hR : RH s h) : ∀ (fu : Nat) (v0 : Nat) (v1 : Int32) (v2 : Int32), (hK s.1 v0 7) → ∀ (q : Int32), hl_In_takesMarked_2 fu v0 v1 v2 s = some q → am_S am_Pr none 1 21 0 0 176 (2, [some (.ref v0), some (.int v1), some (.int v2)], [], h, 0, 0) (am_is (some (.int q)) h) := by
  intro fu
  induction fu with
  | zero => intro v0 v1 v2 hv0 q hd; cases hd
  | succ fu ih =>
    intro v0 v1 v2 hv0 q hd
    unfold hl_In_takesMarked_2 at hd
    refine am_steps ok_In_takesMarked 2 (x' := (4, [some (.ref v0), some (.int v1), some (.int v2)], [.ref v0, .int v2], h, 0, 0)) rfl (Nat.le_of_ble_eq_true rfl) (Nat.le_of_ble_eq_true rfl) ?_
    refine hr_get ok_In_takesMarked rfl hR (kd := 7) hv0 rfl (Nat.le_of_ble_eq_true rfl) (Nat.le_of_ble_eq_true rfl) (v := .int (s.2.1 710 v0)) rfl (pc' := 7) rfl (Nat.le_of_ble_eq_true rfl) (Nat.le_of_ble_eq_true rfl) ?_
    refine am_steps ok_In_takesMarked 1 (x' := (if ((s.2.1 710 v0) : Int32) ≤ v2 then 39 else 10, [some (.ref v0), some (.int v1), some (.int v2)], [], h, 0, 0)) rfl (Nat.le_of_ble_eq_true rfl) (Nat.le_of_ble_eq_true rfl) ?_
    refine am_if (fun hc1 => ?_) (fun hc1 => ?_)
    · rw [if_pos hc1] at hd
      refine am_steps ok_In_takesMarked 1 (x' := (40, [some (.ref v0), some (.int v1), some (.int v2)], [.int 0], h, 0, 0)) rfl (Nat.le_of_ble_eq_true rfl) (Nat.le_of_ble_eq_true rfl) ?_
      cases hd; exact am_ret ok_In_takesMarked rfl (Nat.le_of_ble_eq_true rfl) (Nat.le_of_ble_eq_true rfl) ⟨rfl, rfl⟩
    · rw [if_neg hc1] at hd
      refine am_steps ok_In_takesMarked 2 (x' := (12, [some (.ref v0), some (.int v1), some (.int v2)], [.int v2, .ref v0], h, 0, 0)) rfl (Nat.le_of_ble_eq_true rfl) (Nat.le_of_ble_eq_true rfl) ?_
      obtain ⟨q2, hq3, hd4⟩ := Option.bind_eq_some_iff.mp hd; clear hd; have hd := hd4; clear hd4
      refine ar_cv ok_In_takesMarked hk_In_takes rfl rfl (As := [.int v2]) (ad := v0) (rest := []) rfl rfl (hR.ob hv0 (Nat.le_of_ble_eq_true rfl)) (Nat.le_of_ble_eq_true rfl) (c_In_takes v0 v2 s h hR hv0 q2 hq3) (Nat.le_of_ble_eq_true rfl) (Nat.le_of_ble_eq_true rfl) (Nat.le_of_ble_eq_true rfl) (Nat.le_of_ble_eq_true rfl) (pc' := 15) rfl (fun r5 h7 z6 => ?_)
      obtain ⟨rfl, z9⟩ := z6; rw [z9]
      show am_S _ _ _ _ _ _ _ (15, [some (.ref v0), some (.int v1), some (.int v2)], [.int q2], h, 0, 0) _
      refine am_steps ok_In_takesMarked 1 (x' := (if (q2 : Int32) = 0 then 33 else 18, [some (.ref v0), some (.int v1), some (.int v2)], [], h, 0, 0)) rfl (Nat.le_of_ble_eq_true rfl) (Nat.le_of_ble_eq_true rfl) ?_
      refine am_if (fun hc10 => ?_) (fun hc10 => ?_)
      · rw [if_pos hc10] at hd
        refine am_steps ok_In_takesMarked 2 (x' := (2, [some (.ref v0), some (.int v1), some (.int (v2 + 1))], [], h, 0, 0)) rfl (Nat.le_of_ble_eq_true rfl) (Nat.le_of_ble_eq_true rfl) ?_
        exact ih v0 v1 (v2 + 1) hv0 q hd
      · rw [if_neg hc10] at hd
        refine am_steps ok_In_takesMarked 1 (x' := (19, [some (.ref v0), some (.int v1), some (.int v2)], [.ref v0], h, 0, 0)) rfl (Nat.le_of_ble_eq_true rfl) (Nat.le_of_ble_eq_true rfl) ?_
        refine hr_get ok_In_takesMarked rfl hR (kd := 7) hv0 rfl (Nat.le_of_ble_eq_true rfl) (Nat.le_of_ble_eq_true rfl) (v := va_rf (s.2.2.2.1 708 v0)) rfl (pc' := 22) rfl (Nat.le_of_ble_eq_true rfl) (Nat.le_of_ble_eq_true rfl) ?_
        refine am_steps ok_In_takesMarked 1 (x' := (23, [some (.ref v0), some (.int v1), some (.int v2)], [.int v2, va_rf (s.2.2.2.1 708 v0)], h, 0, 0)) rfl (Nat.le_of_ble_eq_true rfl) (Nat.le_of_ble_eq_true rfl) ?_
        obtain ⟨b11, hb12, hd13⟩ := Option.bind_eq_some_iff.mp hd; clear hd; have hd := hd13; clear hd13
        have hk14 := (fun b hb => hR.2.2.1 708 _ b hb) b11 hb12
        rw [hb12]
        show am_S _ _ _ _ _ _ _ (23, [some (.ref v0), some (.int v1), some (.int v2)], [.int v2, .ref b11], h, 0, 0) _
        obtain ⟨j15, hx16, hd17⟩ := Option.bind_eq_some_iff.mp hd; clear hd; have hd := hd17; clear hd17
        refine hr_aald ok_In_takesMarked rfl hR (kd := 26) hk14 (by decide) rfl hx16 (pc' := 24) rfl (Nat.le_of_ble_eq_true rfl) (Nat.le_of_ble_eq_true rfl) ?_
        obtain ⟨b18, hb19, hd20⟩ := Option.bind_eq_some_iff.mp hd; clear hd; have hd := hd20; clear hd20
        have hk21 := (fun b hb => hR.2.2.2.1 _ _ (hK.ln hk14) _ b hb) b18 hb19
        rw [hb19]
        show am_S _ _ _ _ _ _ _ (24, [some (.ref v0), some (.int v1), some (.int v2)], [.ref b18], h, 0, 0) _
        refine hr_get ok_In_takesMarked rfl hR (kd := 10) hk21 rfl (Nat.le_of_ble_eq_true rfl) (Nat.le_of_ble_eq_true rfl) (v := .int (s.2.1 1008 b18)) rfl (pc' := 27) rfl (Nat.le_of_ble_eq_true rfl) (Nat.le_of_ble_eq_true rfl) ?_
        refine am_steps ok_In_takesMarked 2 (x' := (if ¬ ((s.2.1 1008 b18) : Int32) = v1 then 33 else 31, [some (.ref v0), some (.int v1), some (.int v2)], [], h, 0, 0)) rfl (Nat.le_of_ble_eq_true rfl) (Nat.le_of_ble_eq_true rfl) ?_
        refine am_if (fun hc22 => ?_) (fun hc22 => ?_)
        · rw [if_pos hc22] at hd
          refine am_steps ok_In_takesMarked 2 (x' := (2, [some (.ref v0), some (.int v1), some (.int (v2 + 1))], [], h, 0, 0)) rfl (Nat.le_of_ble_eq_true rfl) (Nat.le_of_ble_eq_true rfl) ?_
          exact ih v0 v1 (v2 + 1) hv0 q hd
        · rw [if_neg hc22] at hd
          refine am_steps ok_In_takesMarked 1 (x' := (32, [some (.ref v0), some (.int v1), some (.int v2)], [.int 1], h, 0, 0)) rfl (Nat.le_of_ble_eq_true rfl) (Nat.le_of_ble_eq_true rfl) ?_
          cases hd; exact am_ret ok_In_takesMarked rfl (Nat.le_of_ble_eq_true rfl) (Nat.le_of_ble_eq_true rfl) ⟨rfl, rfl⟩
def h_In_takesMarked (a : Nat) (b : Int32) (S : hS) : Option (Int32) := hl_In_takesMarked_2 100000 a b 0 S
set_option maxHeartbeats 4000000 in
set_option maxRecDepth 100000 in
theorem c_In_takesMarked (a : Nat) (b : Int32) (S : hS) (h0 : am_H) (hR : RH S h0) (ha : hK S.1 a 7) (q : Int32) (hd : h_In_takesMarked a b S = some q) : am_Me am_Pr none 1 21 0 0 176 [.ref a, .int b] h0 (am_is (some (.int q)) h0) := by
  refine am_enter (d := hd_In_takesMarked) rfl (by decide +kernel) (Nat.le_of_ble_eq_true rfl) ?_
  show am_S _ _ _ _ _ _ _ (0, [some (.ref a), some (.int b), none], [], h0, 0, 0) _
  unfold h_In_takesMarked at hd
  refine am_steps ok_In_takesMarked 2 (x' := (2, [some (.ref a), some (.int b), some (.int 0)], [], h0, 0, 0)) rfl (Nat.le_of_ble_eq_true rfl) (Nat.le_of_ble_eq_true rfl) ?_
  exact Lc_In_takesMarked_2 S h0 hR 100000 a b 0 ha q hd
def hl_Qu_dropFollowers_12 : Nat → Int32 → hS → Option (hS)
  | 0, _, _ => none
  | fu + 1, v1, s => if ((s.2.1 1101 16) : Int32) ≤ v1 then (some s) else ((am_ix v1 250).bind fun j6 => (((s.2.2.2.2.2.2 17 j6)).bind fun b9 => ((if ((s.2.1 705 b9) : Int32) = 0 then (some s) else ((h_In_takesMarked b9 (s.2.1 1106 16) s).bind fun q42 => (if (q42 : Int32) = 0 then (some s) else ((h_In_leaveTrial b9 s).bind fun q51 => (some q51))))).bind fun (u13 : hS) => ((if ¬ ((u13.2.1 705 b9) : Int32) = 0 then (some u13) else ((h_In_markTaken b9 (u13.2.1 1106 16) u13).bind fun q30 => (some q30))).bind fun (u21 : hS) => (hl_Qu_dropFollowers_12 fu (v1 + 1) u21)))))
set_option maxHeartbeats 4000000 in
set_option maxRecDepth 100000 in
theorem Lc_Qu_dropFollowers_12 {Q : Option Value → am_H → Prop} (sh0 : List (Nat × Nat)) (h0 : am_H) : ∀ (fu : Nat) (v1 : Int32) (s : hS) (h : am_H), RH s h → hF h0 h → hE sh0 s.1 → ∀ q : hS, hl_Qu_dropFollowers_12 fu v1 s = some q → (∀ h' : am_H, RH q h' → hF h0 h' → hE sh0 q.1 → am_S am_Pr none 2 43 0 0 221 (70, [some (.ref 16), none, none], [], h', 0, 0) Q) → am_S am_Pr none 2 43 0 0 221 (12, [some (.ref 16), some (.int v1), none], [], h, 0, 0) Q := by
  intro fu
  induction fu with
  | zero => intro v1 s h hR f he  q hd; cases hd
  | succ fu ih =>
    intro v1 s h hR f he  q hd kk
    unfold hl_Qu_dropFollowers_12 at hd
    refine am_steps ok_Qu_dropFollowers 2 (x' := (14, [some (.ref 16), some (.int v1), none], [.ref 16, .int v1], h, 0, 0)) rfl (Nat.le_of_ble_eq_true rfl) (Nat.le_of_ble_eq_true rfl) ?_
    refine hr_get ok_Qu_dropFollowers rfl hR (kd := 11) (hs_k hR (a := 16) rfl) rfl (Nat.le_of_ble_eq_true rfl) (Nat.le_of_ble_eq_true rfl) (v := .int (s.2.1 1101 16)) rfl (pc' := 17) rfl (Nat.le_of_ble_eq_true rfl) (Nat.le_of_ble_eq_true rfl) ?_
    refine am_steps ok_Qu_dropFollowers 1 (x' := (if ((s.2.1 1101 16) : Int32) ≤ v1 then 70 else 20, [some (.ref 16), some (.int v1), none], [], h, 0, 0)) rfl (Nat.le_of_ble_eq_true rfl) (Nat.le_of_ble_eq_true rfl) ?_
    refine am_if (fun hc5 => ?_) (fun hc5 => ?_)
    · rw [if_pos hc5] at hd
      refine am_drop 1 ?_
      cases hd; exact kk h hR f he 
    · rw [if_neg hc5] at hd
      refine am_steps ok_Qu_dropFollowers 1 (x' := (21, [some (.ref 16), some (.int v1), none], [.ref 16], h, 0, 0)) rfl (Nat.le_of_ble_eq_true rfl) (Nat.le_of_ble_eq_true rfl) ?_
      refine hr_get ok_Qu_dropFollowers rfl hR (kd := 11) (hs_k hR (a := 16) rfl) rfl (Nat.le_of_ble_eq_true rfl) (Nat.le_of_ble_eq_true rfl) (v := .ref 17) (congrArg va_rf (hR.2.2.2.2.1 (1100, 16, 17) (by decide))) (pc' := 24) rfl (Nat.le_of_ble_eq_true rfl) (Nat.le_of_ble_eq_true rfl) ?_
      refine am_steps ok_Qu_dropFollowers 1 (x' := (25, [some (.ref 16), some (.int v1), none], [.int v1, .ref 17], h, 0, 0)) rfl (Nat.le_of_ble_eq_true rfl) (Nat.le_of_ble_eq_true rfl) ?_
      obtain ⟨j6, hx7, hd8⟩ := Option.bind_eq_some_iff.mp hd; clear hd; have hd := hd8; clear hd8
      refine hr_aald ok_Qu_dropFollowers rfl hR (kd := 27) (hs_k hR (a := 17) rfl) (by decide) (hs_ln hR rfl) hx7 (pc' := 26) rfl (Nat.le_of_ble_eq_true rfl) (Nat.le_of_ble_eq_true rfl) ?_
      refine hr_astoren ok_Qu_dropFollowers rfl (Nat.le_of_ble_eq_true rfl) (lo' := [some (.ref 16), some (.int v1), some (va_rf (s.2.2.2.2.2.2 17 j6))]) rfl (pc' := 27) rfl (Nat.le_of_ble_eq_true rfl) (Nat.le_of_ble_eq_true rfl) ?_
      refine hr_aloadn ok_Qu_dropFollowers rfl rfl (pc' := 28) rfl (Nat.le_of_ble_eq_true rfl) (Nat.le_of_ble_eq_true rfl) ?_
      obtain ⟨b9, hb10, hd11⟩ := Option.bind_eq_some_iff.mp hd; clear hd; have hd := hd11; clear hd11
      have hk12 := (fun b hb => hR.2.2.2.1 _ _ (hK.ln (hs_k hR (a := 17) rfl)) _ b hb) b9 hb10
      rw [hb10]
      show am_S _ _ _ _ _ _ _ (28, [some (.ref 16), some (.int v1), some (.ref b9)], [.ref b9], h, 0, 0) _
      refine hr_get ok_Qu_dropFollowers rfl hR (kd := 7) hk12 rfl (Nat.le_of_ble_eq_true rfl) (Nat.le_of_ble_eq_true rfl) (v := .int (s.2.1 705 b9)) rfl (pc' := 31) rfl (Nat.le_of_ble_eq_true rfl) (Nat.le_of_ble_eq_true rfl) ?_
      refine am_steps ok_Qu_dropFollowers 1 (x' := (if ((s.2.1 705 b9) : Int32) = 0 then 49 else 34, [some (.ref 16), some (.int v1), some (.ref b9)], [], h, 0, 0)) rfl (Nat.le_of_ble_eq_true rfl) (Nat.le_of_ble_eq_true rfl) ?_
      obtain ⟨u13, hA15, hB16⟩ := Option.bind_eq_some_iff.mp hd; clear hd
      have K14 : ∀ h' : am_H, RH u13 h' → hF h0 h' → hE s.1 u13.1 → am_S am_Pr none 2 43 0 0 221 (49, [some (.ref 16), some (.int v1), some (.ref b9)], [], h', 0, 0) Q := by
        have hd := hB16
        intro h17 hR18 f19 e20
        refine am_steps ok_Qu_dropFollowers 1 (x' := (50, [some (.ref 16), some (.int v1), some (.ref b9)], [.ref b9], h17, 0, 0)) rfl (Nat.le_of_ble_eq_true rfl) (Nat.le_of_ble_eq_true rfl) ?_
        refine hr_get ok_Qu_dropFollowers rfl hR18 (kd := 7) (hk12.up e20) rfl (Nat.le_of_ble_eq_true rfl) (Nat.le_of_ble_eq_true rfl) (v := .int (u13.2.1 705 b9)) rfl (pc' := 53) rfl (Nat.le_of_ble_eq_true rfl) (Nat.le_of_ble_eq_true rfl) ?_
        refine am_steps ok_Qu_dropFollowers 1 (x' := (if ¬ ((u13.2.1 705 b9) : Int32) = 0 then 64 else 56, [some (.ref 16), some (.int v1), some (.ref b9)], [], h17, 0, 0)) rfl (Nat.le_of_ble_eq_true rfl) (Nat.le_of_ble_eq_true rfl) ?_
        obtain ⟨u21, hA23, hB24⟩ := Option.bind_eq_some_iff.mp hd; clear hd
        have K22 : ∀ h' : am_H, RH u21 h' → hF h0 h' → hE u13.1 u21.1 → am_S am_Pr none 2 43 0 0 221 (64, [some (.ref 16), some (.int v1), none], [], h', 0, 0) Q := by
          have hd := hB24
          intro h25 hR26 f27 e28
          refine am_steps ok_Qu_dropFollowers 2 (x' := (12, [some (.ref 16), some (.int (v1 + 1)), none], [], h25, 0, 0)) rfl (Nat.le_of_ble_eq_true rfl) (Nat.le_of_ble_eq_true rfl) ?_
          exact ih (v1 + 1) u21 h25 hR26 f27 ((he.tr e20).tr e28)  q hd kk
        clear hB24; have hd := hA23; clear hA23
        refine am_if (fun hc29 => ?_) (fun hc29 => ?_)
        · rw [if_pos hc29] at hd
          refine am_drop 2 ?_
          cases hd; exact K22 h17 hR18 f19 hE.rf
        · rw [if_neg hc29] at hd
          refine am_steps ok_Qu_dropFollowers 2 (x' := (58, [some (.ref 16), some (.int v1), some (.ref b9)], [.ref 16, .ref b9], h17, 0, 0)) rfl (Nat.le_of_ble_eq_true rfl) (Nat.le_of_ble_eq_true rfl) ?_
          refine hr_get ok_Qu_dropFollowers rfl hR18 (kd := 11) (hs_k hR18 (a := 16) rfl) rfl (Nat.le_of_ble_eq_true rfl) (Nat.le_of_ble_eq_true rfl) (v := .int (u13.2.1 1106 16)) rfl (pc' := 61) rfl (Nat.le_of_ble_eq_true rfl) (Nat.le_of_ble_eq_true rfl) ?_
          obtain ⟨q30, hq31, hd32⟩ := Option.bind_eq_some_iff.mp hd; clear hd; have hd := hd32; clear hd32
          refine ar_cv ok_Qu_dropFollowers hk_In_markTaken rfl rfl (As := [.int (u13.2.1 1106 16)]) (ad := b9) (rest := []) rfl rfl (hR18.ob (hk12.up e20) (Nat.le_of_ble_eq_true rfl)) (Nat.le_of_ble_eq_true rfl) (c_In_markTaken b9 (u13.2.1 1106 16) u13 h17 hR18 (hk12.up e20) q30 hq31) (Nat.le_of_ble_eq_true rfl) (Nat.le_of_ble_eq_true rfl) (Nat.le_of_ble_eq_true rfl) (Nat.le_of_ble_eq_true rfl) (pc' := 64) rfl (fun r33 h35 z34 => ?_)
          obtain ⟨rfl, hR37, g38, e39⟩ := z34
          have f40 := hF.tr f19 g38
          show am_S _ _ _ _ _ _ _ (64, [some (.ref 16), some (.int v1), some (.ref b9)], [], h35, 0, 0) _
          refine am_drop 2 ?_
          cases hd; exact K22 h35 hR37 f40 e39
      clear hB16; have hd := hA15; clear hA15
      refine am_if (fun hc41 => ?_) (fun hc41 => ?_)
      · rw [if_pos hc41] at hd
        cases hd; exact K14 h hR f hE.rf
      · rw [if_neg hc41] at hd
        refine am_steps ok_Qu_dropFollowers 2 (x' := (36, [some (.ref 16), some (.int v1), some (.ref b9)], [.ref 16, .ref b9], h, 0, 0)) rfl (Nat.le_of_ble_eq_true rfl) (Nat.le_of_ble_eq_true rfl) ?_
        refine hr_get ok_Qu_dropFollowers rfl hR (kd := 11) (hs_k hR (a := 16) rfl) rfl (Nat.le_of_ble_eq_true rfl) (Nat.le_of_ble_eq_true rfl) (v := .int (s.2.1 1106 16)) rfl (pc' := 39) rfl (Nat.le_of_ble_eq_true rfl) (Nat.le_of_ble_eq_true rfl) ?_
        obtain ⟨q42, hq43, hd44⟩ := Option.bind_eq_some_iff.mp hd; clear hd; have hd := hd44; clear hd44
        refine ar_cv ok_Qu_dropFollowers hk_In_takesMarked rfl rfl (As := [.int (s.2.1 1106 16)]) (ad := b9) (rest := []) rfl rfl (hR.ob hk12 (Nat.le_of_ble_eq_true rfl)) (Nat.le_of_ble_eq_true rfl) (c_In_takesMarked b9 (s.2.1 1106 16) s h hR hk12 q42 hq43) (Nat.le_of_ble_eq_true rfl) (Nat.le_of_ble_eq_true rfl) (Nat.le_of_ble_eq_true rfl) (Nat.le_of_ble_eq_true rfl) (pc' := 42) rfl (fun r45 h47 z46 => ?_)
        obtain ⟨rfl, z49⟩ := z46; rw [z49]
        show am_S _ _ _ _ _ _ _ (42, [some (.ref 16), some (.int v1), some (.ref b9)], [.int q42], h, 0, 0) _
        refine am_steps ok_Qu_dropFollowers 1 (x' := (if (q42 : Int32) = 0 then 49 else 45, [some (.ref 16), some (.int v1), some (.ref b9)], [], h, 0, 0)) rfl (Nat.le_of_ble_eq_true rfl) (Nat.le_of_ble_eq_true rfl) ?_
        refine am_if (fun hc50 => ?_) (fun hc50 => ?_)
        · rw [if_pos hc50] at hd
          cases hd; exact K14 h hR f hE.rf
        · rw [if_neg hc50] at hd
          refine am_steps ok_Qu_dropFollowers 1 (x' := (46, [some (.ref 16), some (.int v1), some (.ref b9)], [.ref b9], h, 0, 0)) rfl (Nat.le_of_ble_eq_true rfl) (Nat.le_of_ble_eq_true rfl) ?_
          obtain ⟨q51, hq52, hd53⟩ := Option.bind_eq_some_iff.mp hd; clear hd; have hd := hd53; clear hd53
          refine ar_cv ok_Qu_dropFollowers hk_In_leaveTrial rfl rfl (As := []) (ad := b9) (rest := []) rfl rfl (hR.ob hk12 (Nat.le_of_ble_eq_true rfl)) (Nat.le_of_ble_eq_true rfl) (c_In_leaveTrial b9 s h hR hk12 q51 hq52) (Nat.le_of_ble_eq_true rfl) (Nat.le_of_ble_eq_true rfl) (Nat.le_of_ble_eq_true rfl) (Nat.le_of_ble_eq_true rfl) (pc' := 49) rfl (fun r54 h56 z55 => ?_)
          obtain ⟨rfl, hR58, g59, e60⟩ := z55
          have f61 := hF.tr f g59
          show am_S _ _ _ _ _ _ _ (49, [some (.ref 16), some (.int v1), some (.ref b9)], [], h56, 0, 0) _
          cases hd; exact K14 h56 hR58 f61 e60
def h_Qu_dropFollowers  (S : hS) : Option (hS) := (hl_Qu_dropFollowers_12 100000 0 (hpI S 1106 16 ((S.2.1 1106 16) + 1))).bind fun q62 => (some q62)
set_option maxHeartbeats 4000000 in
set_option maxRecDepth 100000 in
theorem c_Qu_dropFollowers  (S : hS) (h0 : am_H) (hR : RH S h0)  (q : hS) (hd : h_Qu_dropFollowers  S = some q) : am_Me am_Pr none 2 43 0 0 221 [.ref 16] h0 (hQv q S.1 h0) := by
  refine am_enter (d := hd_Qu_dropFollowers) rfl (by decide +kernel) (Nat.le_of_ble_eq_true rfl) ?_
  show am_S _ _ _ _ _ _ _ (0, [some (.ref 16), none, none], [], h0, 0, 0) _
  unfold h_Qu_dropFollowers at hd
  refine am_steps ok_Qu_dropFollowers 2 (x' := (2, [some (.ref 16), none, none], [.ref 16, .ref 16], h0, 0, 0)) rfl (Nat.le_of_ble_eq_true rfl) (Nat.le_of_ble_eq_true rfl) ?_
  refine hr_get ok_Qu_dropFollowers rfl hR (kd := 11) (hs_k hR (a := 16) rfl) rfl (Nat.le_of_ble_eq_true rfl) (Nat.le_of_ble_eq_true rfl) (v := .int (S.2.1 1106 16)) rfl (pc' := 5) rfl (Nat.le_of_ble_eq_true rfl) (Nat.le_of_ble_eq_true rfl) ?_
  refine am_steps ok_Qu_dropFollowers 2 (x' := (7, [some (.ref 16), none, none], [.int ((S.2.1 1106 16) + 1), .ref 16], h0, 0, 0)) rfl (Nat.le_of_ble_eq_true rfl) (Nat.le_of_ble_eq_true rfl) ?_
  refine hr_put ok_Qu_dropFollowers rfl hR (kd := 11) (hs_k hR (a := 16) rfl) rfl (Nat.le_of_ble_eq_true rfl) (Nat.le_of_ble_eq_true rfl) rfl (S' := (hpI S 1106 16 ((S.2.1 1106 16) + 1))) rfl (hWT.up hR.2.2 rfl rfl rfl) (pc' := 10) rfl (Nat.le_of_ble_eq_true rfl) (Nat.le_of_ble_eq_true rfl) (fun h1 hR2 g3 => ?_)
  have f4 := hF.tr hF.rf g3
  refine am_steps ok_Qu_dropFollowers 2 (x' := (12, [some (.ref 16), some (.int 0), none], [], h1, 0, 0)) rfl (Nat.le_of_ble_eq_true rfl) (Nat.le_of_ble_eq_true rfl) ?_
  obtain ⟨q62, hq63, hd64⟩ := Option.bind_eq_some_iff.mp hd; clear hd; have hd := hd64; clear hd64
  refine Lc_Qu_dropFollowers_12 S.1 h0 100000 0 (hpI S 1106 16 ((S.2.1 1106 16) + 1)) h1 hR2 f4 hE.rf  q62 hq63 (fun h65 hR66 f67 e68 => ?_)
  show am_S _ _ _ _ _ _ _ (70, [some (.ref 16), none, none], [], h65, 0, 0) _
  cases hd; exact am_ret ok_Qu_dropFollowers rfl (Nat.le_of_ble_eq_true rfl) (Nat.le_of_ble_eq_true rfl) ⟨rfl, hR66, f67, (hE.rf.tr e68)⟩
def hl_In_doNets_2 : Nat → Nat → Int32 → hS → Option (hS)
  | 0, _, _, _ => none
  | fu + 1, v0, v1, s => if ((s.2.1 710 v0) : Int32) ≤ v1 then (some s) else (((s.2.2.2.1 708 v0)).bind fun b2 => ((am_ix v1 (hln s.1 b2)).bind fun j6 => (((s.2.2.2.1 709 v0)).bind fun b9 => ((am_ix v1 (hln s.1 b9)).bind fun j13 => (((s.2.2.2.2.2.2 b2 j6)).bind fun b16 => ((h_Po_moveBy b16 (s.2.2.2.2.2.1 b9 j13) s).bind fun q20 => (hl_In_doNets_2 fu v0 (v1 + 1) q20)))))))
set_option maxHeartbeats 4000000 in
set_option maxRecDepth 100000 in
theorem Lc_In_doNets_2 {Q : Option Value → am_H → Prop} (sh0 : List (Nat × Nat)) (h0 : am_H) : ∀ (fu : Nat) (v0 : Nat) (v1 : Int32) (s : hS) (h : am_H), RH s h → hF h0 h → hE sh0 s.1 → (hK s.1 v0 7) → ∀ q : hS, hl_In_doNets_2 fu v0 v1 s = some q → (∀ h' : am_H, RH q h' → hF h0 h' → hE sh0 q.1 → am_S am_Pr none 1 22 0 0 181 (31, [some (.ref v0), none], [], h', 0, 0) Q) → am_S am_Pr none 1 22 0 0 181 (2, [some (.ref v0), some (.int v1)], [], h, 0, 0) Q := by
  intro fu
  induction fu with
  | zero => intro v0 v1 s h hR f he hv0 q hd; cases hd
  | succ fu ih =>
    intro v0 v1 s h hR f he hv0 q hd kk
    unfold hl_In_doNets_2 at hd
    refine am_steps ok_In_doNets 2 (x' := (4, [some (.ref v0), some (.int v1)], [.ref v0, .int v1], h, 0, 0)) rfl (Nat.le_of_ble_eq_true rfl) (Nat.le_of_ble_eq_true rfl) ?_
    refine hr_get ok_In_doNets rfl hR (kd := 7) hv0 rfl (Nat.le_of_ble_eq_true rfl) (Nat.le_of_ble_eq_true rfl) (v := .int (s.2.1 710 v0)) rfl (pc' := 7) rfl (Nat.le_of_ble_eq_true rfl) (Nat.le_of_ble_eq_true rfl) ?_
    refine am_steps ok_In_doNets 1 (x' := (if ((s.2.1 710 v0) : Int32) ≤ v1 then 31 else 10, [some (.ref v0), some (.int v1)], [], h, 0, 0)) rfl (Nat.le_of_ble_eq_true rfl) (Nat.le_of_ble_eq_true rfl) ?_
    refine am_if (fun hc1 => ?_) (fun hc1 => ?_)
    · rw [if_pos hc1] at hd
      refine am_drop 1 ?_
      cases hd; exact kk h hR f he 
    · rw [if_neg hc1] at hd
      refine am_steps ok_In_doNets 1 (x' := (11, [some (.ref v0), some (.int v1)], [.ref v0], h, 0, 0)) rfl (Nat.le_of_ble_eq_true rfl) (Nat.le_of_ble_eq_true rfl) ?_
      refine hr_get ok_In_doNets rfl hR (kd := 7) hv0 rfl (Nat.le_of_ble_eq_true rfl) (Nat.le_of_ble_eq_true rfl) (v := va_rf (s.2.2.2.1 708 v0)) rfl (pc' := 14) rfl (Nat.le_of_ble_eq_true rfl) (Nat.le_of_ble_eq_true rfl) ?_
      refine am_steps ok_In_doNets 1 (x' := (15, [some (.ref v0), some (.int v1)], [.int v1, va_rf (s.2.2.2.1 708 v0)], h, 0, 0)) rfl (Nat.le_of_ble_eq_true rfl) (Nat.le_of_ble_eq_true rfl) ?_
      obtain ⟨b2, hb3, hd4⟩ := Option.bind_eq_some_iff.mp hd; clear hd; have hd := hd4; clear hd4
      have hk5 := (fun b hb => hR.2.2.1 708 _ b hb) b2 hb3
      rw [hb3]
      show am_S _ _ _ _ _ _ _ (15, [some (.ref v0), some (.int v1)], [.int v1, .ref b2], h, 0, 0) _
      obtain ⟨j6, hx7, hd8⟩ := Option.bind_eq_some_iff.mp hd; clear hd; have hd := hd8; clear hd8
      refine hr_aald ok_In_doNets rfl hR (kd := 26) hk5 (by decide) rfl hx7 (pc' := 16) rfl (Nat.le_of_ble_eq_true rfl) (Nat.le_of_ble_eq_true rfl) ?_
      refine am_steps ok_In_doNets 1 (x' := (17, [some (.ref v0), some (.int v1)], [.ref v0, va_rf (s.2.2.2.2.2.2 b2 j6)], h, 0, 0)) rfl (Nat.le_of_ble_eq_true rfl) (Nat.le_of_ble_eq_true rfl) ?_
      refine hr_get ok_In_doNets rfl hR (kd := 7) hv0 rfl (Nat.le_of_ble_eq_true rfl) (Nat.le_of_ble_eq_true rfl) (v := va_rf (s.2.2.2.1 709 v0)) rfl (pc' := 20) rfl (Nat.le_of_ble_eq_true rfl) (Nat.le_of_ble_eq_true rfl) ?_
      refine am_steps ok_In_doNets 1 (x' := (21, [some (.ref v0), some (.int v1)], [.int v1, va_rf (s.2.2.2.1 709 v0), va_rf (s.2.2.2.2.2.2 b2 j6)], h, 0, 0)) rfl (Nat.le_of_ble_eq_true rfl) (Nat.le_of_ble_eq_true rfl) ?_
      obtain ⟨b9, hb10, hd11⟩ := Option.bind_eq_some_iff.mp hd; clear hd; have hd := hd11; clear hd11
      have hk12 := (fun b hb => hR.2.2.1 709 _ b hb) b9 hb10
      rw [hb10]
      show am_S _ _ _ _ _ _ _ (21, [some (.ref v0), some (.int v1)], [.int v1, .ref b9, va_rf (s.2.2.2.2.2.2 b2 j6)], h, 0, 0) _
      obtain ⟨j13, hx14, hd15⟩ := Option.bind_eq_some_iff.mp hd; clear hd; have hd := hd15; clear hd15
      refine hr_lald ok_In_doNets rfl hR hk12 rfl hx14 (pc' := 22) rfl (Nat.le_of_ble_eq_true rfl) (Nat.le_of_ble_eq_true rfl) ?_
      obtain ⟨b16, hb17, hd18⟩ := Option.bind_eq_some_iff.mp hd; clear hd; have hd := hd18; clear hd18
      have hk19 := (fun b hb => hR.2.2.2.1 _ _ (hK.ln hk5) _ b hb) b16 hb17
      rw [hb17]
      show am_S _ _ _ _ _ _ _ (22, [some (.ref v0), some (.int v1)], [.long (s.2.2.2.2.2.1 b9 j13), .ref b16], h, 0, 0) _
      obtain ⟨q20, hq21, hd22⟩ := Option.bind_eq_some_iff.mp hd; clear hd; have hd := hd22; clear hd22
      refine ar_cv ok_In_doNets hk_Po_moveBy rfl rfl (As := [.long (s.2.2.2.2.2.1 b9 j13)]) (ad := b16) (rest := []) rfl rfl (hR.ob hk19 (Nat.le_of_ble_eq_true rfl)) (Nat.le_of_ble_eq_true rfl) (c_Po_moveBy b16 (s.2.2.2.2.2.1 b9 j13) s h hR hk19 q20 hq21) (Nat.le_of_ble_eq_true rfl) (Nat.le_of_ble_eq_true rfl) (Nat.le_of_ble_eq_true rfl) (Nat.le_of_ble_eq_true rfl) (pc' := 25) rfl (fun r23 h25 z24 => ?_)
      obtain ⟨rfl, hR27, g28, e29⟩ := z24
      have f30 := hF.tr f g28
      show am_S _ _ _ _ _ _ _ (25, [some (.ref v0), some (.int v1)], [], h25, 0, 0) _
      refine am_steps ok_In_doNets 2 (x' := (2, [some (.ref v0), some (.int (v1 + 1))], [], h25, 0, 0)) rfl (Nat.le_of_ble_eq_true rfl) (Nat.le_of_ble_eq_true rfl) ?_
      exact ih v0 (v1 + 1) q20 h25 hR27 f30 (he.tr e29) (hv0.up e29) q hd kk
def h_In_doNets (a : Nat) (S : hS) : Option (hS) := (hl_In_doNets_2 100000 a 0 S).bind fun q31 => (some q31)
set_option maxHeartbeats 4000000 in
set_option maxRecDepth 100000 in
theorem c_In_doNets (a : Nat) (S : hS) (h0 : am_H) (hR : RH S h0) (ha : hK S.1 a 7) (q : hS) (hd : h_In_doNets a S = some q) : am_Me am_Pr none 1 22 0 0 181 [.ref a] h0 (hQv q S.1 h0) := by
  refine am_enter (d := hd_In_doNets) rfl (by decide +kernel) (Nat.le_of_ble_eq_true rfl) ?_
  show am_S _ _ _ _ _ _ _ (0, [some (.ref a), none], [], h0, 0, 0) _
  unfold h_In_doNets at hd
  refine am_steps ok_In_doNets 2 (x' := (2, [some (.ref a), some (.int 0)], [], h0, 0, 0)) rfl (Nat.le_of_ble_eq_true rfl) (Nat.le_of_ble_eq_true rfl) ?_
  obtain ⟨q31, hq32, hd33⟩ := Option.bind_eq_some_iff.mp hd; clear hd; have hd := hd33; clear hd33
  refine Lc_In_doNets_2 S.1 h0 100000 a 0 S h0 hR hF.rf hE.rf ha q31 hq32 (fun h34 hR35 f36 e37 => ?_)
  show am_S _ _ _ _ _ _ _ (31, [some (.ref a), none], [], h34, 0, 0) _
  cases hd; exact am_ret ok_In_doNets rfl (Nat.le_of_ble_eq_true rfl) (Nat.le_of_ble_eq_true rfl) ⟨rfl, hR35, f36, (hE.rf.tr e37)⟩
