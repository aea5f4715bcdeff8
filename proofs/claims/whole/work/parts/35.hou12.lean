/-! Methods of the class as functions of its state. -/
def h_Qu_end (a : Nat) (b : Int32) (S : hS) : Option (hS) := if (250 : Int32) ≤ (S.2.1 1105 16) then (some (hpI S 704 a b)) else ((am_ix (S.2.1 1105 16) 250).bind fun j6 => (some (hpI (hpQ (hpI S 704 a b) 19 j6 (some a)) 1105 16 ((S.2.1 1105 16) + 1))))
set_option maxHeartbeats 4000000 in
set_option maxRecDepth 100000 in
theorem c_Qu_end (a : Nat) (b : Int32) (S : hS) (h0 : am_H) (hR : RH S h0) (ha : hK S.1 a 7) (q : hS) (hd : h_Qu_end a b S = some q) : am_Me am_Pr none 0 0 0 0 218 [.ref 16, .ref a, .int b] h0 (hQv q S.1 h0) := by
  refine am_enter (d := hd_Qu_end) rfl (by decide +kernel) (Nat.le_of_ble_eq_true rfl) ?_
  show am_S _ _ _ _ _ _ _ (0, [some (.ref 16), some (.ref a), some (.int b)], [], h0, 0, 0) _
  unfold h_Qu_end at hd
  refine am_steps ok_Qu_end 2 (x' := (2, [some (.ref 16), some (.ref a), some (.int b)], [.int b, .ref a], h0, 0, 0)) rfl (Nat.le_of_ble_eq_true rfl) (Nat.le_of_ble_eq_true rfl) ?_
  refine hr_put ok_Qu_end rfl hR (kd := 7) ha rfl (Nat.le_of_ble_eq_true rfl) (Nat.le_of_ble_eq_true rfl) rfl (S' := (hpI S 704 a b)) rfl (hWT.up hR.2.2 rfl rfl rfl) (pc' := 5) rfl (Nat.le_of_ble_eq_true rfl) (Nat.le_of_ble_eq_true rfl) (fun h1 hR2 g3 => ?_)
  have f4 := hF.tr hF.rf g3
  refine am_steps ok_Qu_end 1 (x' := (6, [some (.ref 16), some (.ref a), some (.int b)], [.ref 16], h1, 0, 0)) rfl (Nat.le_of_ble_eq_true rfl) (Nat.le_of_ble_eq_true rfl) ?_
  refine hr_get ok_Qu_end rfl hR2 (kd := 11) (hs_k hR2 (a := 16) rfl) rfl (Nat.le_of_ble_eq_true rfl) (Nat.le_of_ble_eq_true rfl) (v := .int (S.2.1 1105 16)) rfl (pc' := 9) rfl (Nat.le_of_ble_eq_true rfl) (Nat.le_of_ble_eq_true rfl) ?_
  refine am_steps ok_Qu_end 2 (x' := (if (250 : Int32) ≤ (S.2.1 1105 16) then 35 else 15, [some (.ref 16), some (.ref a), some (.int b)], [], h1, 0, 0)) rfl (Nat.le_of_ble_eq_true rfl) (Nat.le_of_ble_eq_true rfl) ?_
  refine am_if (fun hc5 => ?_) (fun hc5 => ?_)
  · rw [if_pos hc5] at hd
    cases hd; exact am_ret ok_Qu_end rfl (Nat.le_of_ble_eq_true rfl) (Nat.le_of_ble_eq_true rfl) ⟨rfl, hR2, f4, hE.rf⟩
  · rw [if_neg hc5] at hd
    refine am_steps ok_Qu_end 1 (x' := (16, [some (.ref 16), some (.ref a), some (.int b)], [.ref 16], h1, 0, 0)) rfl (Nat.le_of_ble_eq_true rfl) (Nat.le_of_ble_eq_true rfl) ?_
    refine hr_get ok_Qu_end rfl hR2 (kd := 11) (hs_k hR2 (a := 16) rfl) rfl (Nat.le_of_ble_eq_true rfl) (Nat.le_of_ble_eq_true rfl) (v := .ref 19) (congrArg va_rf (hR2.2.2.2.2.1 (1104, 16, 19) (by decide))) (pc' := 19) rfl (Nat.le_of_ble_eq_true rfl) (Nat.le_of_ble_eq_true rfl) ?_
    refine am_steps ok_Qu_end 1 (x' := (20, [some (.ref 16), some (.ref a), some (.int b)], [.ref 16, .ref 19], h1, 0, 0)) rfl (Nat.le_of_ble_eq_true rfl) (Nat.le_of_ble_eq_true rfl) ?_
    refine hr_get ok_Qu_end rfl hR2 (kd := 11) (hs_k hR2 (a := 16) rfl) rfl (Nat.le_of_ble_eq_true rfl) (Nat.le_of_ble_eq_true rfl) (v := .int (S.2.1 1105 16)) rfl (pc' := 23) rfl (Nat.le_of_ble_eq_true rfl) (Nat.le_of_ble_eq_true rfl) ?_
    refine am_steps ok_Qu_end 1 (x' := (24, [some (.ref 16), some (.ref a), some (.int b)], [.ref a, .int (S.2.1 1105 16), .ref 19], h1, 0, 0)) rfl (Nat.le_of_ble_eq_true rfl) (Nat.le_of_ble_eq_true rfl) ?_
    obtain ⟨j6, hx7, hd8⟩ := Option.bind_eq_some_iff.mp hd; clear hd; have hd := hd8; clear hd8
    refine hr_aast ok_Qu_end rfl hR2 (kd := 27) (hs_k hR2 (a := 19) rfl) (by decide) (hs_ln hR2 rfl) hx7 (o := (some a)) (fun _ hz => by cases hz; exact ha) (pc' := 25) rfl (Nat.le_of_ble_eq_true rfl) (Nat.le_of_ble_eq_true rfl) (fun h9 hR10 g11 => ?_)
    have f12 := hF.tr f4 g11
    refine am_steps ok_Qu_end 2 (x' := (27, [some (.ref 16), some (.ref a), some (.int b)], [.ref 16, .ref 16], h9, 0, 0)) rfl (Nat.le_of_ble_eq_true rfl) (Nat.le_of_ble_eq_true rfl) ?_
    refine hr_get ok_Qu_end rfl hR10 (kd := 11) (hs_k hR10 (a := 16) rfl) rfl (Nat.le_of_ble_eq_true rfl) (Nat.le_of_ble_eq_true rfl) (v := .int (S.2.1 1105 16)) rfl (pc' := 30) rfl (Nat.le_of_ble_eq_true rfl) (Nat.le_of_ble_eq_true rfl) ?_
    refine am_steps ok_Qu_end 2 (x' := (32, [some (.ref 16), some (.ref a), some (.int b)], [.int ((S.2.1 1105 16) + 1), .ref 16], h9, 0, 0)) rfl (Nat.le_of_ble_eq_true rfl) (Nat.le_of_ble_eq_true rfl) ?_
    refine hr_put ok_Qu_end rfl hR10 (kd := 11) (hs_k hR10 (a := 16) rfl) rfl (Nat.le_of_ble_eq_true rfl) (Nat.le_of_ble_eq_true rfl) rfl (S' := (hpI (hpQ (hpI S 704 a b) 19 j6 (some a)) 1105 16 ((S.2.1 1105 16) + 1))) rfl (hWT.up hR10.2.2 rfl rfl rfl) (pc' := 35) rfl (Nat.le_of_ble_eq_true rfl) (Nat.le_of_ble_eq_true rfl) (fun h13 hR14 g15 => ?_)
    have f16 := hF.tr f12 g15
    cases hd; exact am_ret ok_Qu_end rfl (Nat.le_of_ble_eq_true rfl) (Nat.le_of_ble_eq_true rfl) ⟨rfl, hR14, f16, hE.rf⟩
def h_Qu_settle (a : Nat) (S : hS) : Option (hS) := (h_In_doNets a S).bind fun q1 => ((h_Qu_leave (some a) q1).bind fun q12 => ((h_Qu_end a 2 q12).bind fun q23 => (some q23)))
set_option maxHeartbeats 4000000 in
set_option maxRecDepth 100000 in
theorem c_Qu_settle (a : Nat) (S : hS) (h0 : am_H) (hR : RH S h0) (ha : hK S.1 a 7) (q : hS) (hd : h_Qu_settle a S = some q) : am_Me am_Pr none 2 45 0 0 217 [.ref 16, .ref a] h0 (hQv q S.1 h0) := by
  refine am_enter (d := hd_Qu_settle) rfl (by decide +kernel) (Nat.le_of_ble_eq_true rfl) ?_
  show am_S _ _ _ _ _ _ _ (0, [some (.ref 16), some (.ref a)], [], h0, 0, 0) _
  unfold h_Qu_settle at hd
  refine am_steps ok_Qu_settle 1 (x' := (1, [some (.ref 16), some (.ref a)], [.ref a], h0, 0, 0)) rfl (Nat.le_of_ble_eq_true rfl) (Nat.le_of_ble_eq_true rfl) ?_
  obtain ⟨q1, hq2, hd3⟩ := Option.bind_eq_some_iff.mp hd; clear hd; have hd := hd3; clear hd3
  refine ar_cv ok_Qu_settle hk_In_doNets rfl rfl (As := []) (ad := a) (rest := []) rfl rfl (hR.ob ha (Nat.le_of_ble_eq_true rfl)) (Nat.le_of_ble_eq_true rfl) (c_In_doNets a S h0 hR ha q1 hq2) (Nat.le_of_ble_eq_true rfl) (Nat.le_of_ble_eq_true rfl) (Nat.le_of_ble_eq_true rfl) (Nat.le_of_ble_eq_true rfl) (pc' := 4) rfl (fun r4 h6 z5 => ?_)
  obtain ⟨rfl, hR8, g9, e10⟩ := z5
  have f11 := hF.tr hF.rf g9
  show am_S _ _ _ _ _ _ _ (4, [some (.ref 16), some (.ref a)], [], h6, 0, 0) _
  refine am_steps ok_Qu_settle 2 (x' := (6, [some (.ref 16), some (.ref a)], [.ref a, .ref 16], h6, 0, 0)) rfl (Nat.le_of_ble_eq_true rfl) (Nat.le_of_ble_eq_true rfl) ?_
  obtain ⟨q12, hq13, hd14⟩ := Option.bind_eq_some_iff.mp hd; clear hd; have hd := hd14; clear hd14
  refine ar_cv ok_Qu_settle hk_Qu_leave rfl rfl (As := [.ref a]) (ad := 16) (rest := []) rfl rfl (hR8.ob (hs_k hR8 (a := 16) rfl) (Nat.le_of_ble_eq_true rfl)) (Nat.le_of_ble_eq_true rfl) (c_Qu_leave (some a) q1 h6 hR8 (fun _ hz => by cases hz; exact (ha.up e10)) q12 hq13) (Nat.le_of_ble_eq_true rfl) (Nat.le_of_ble_eq_true rfl) (Nat.le_of_ble_eq_true rfl) (Nat.le_of_ble_eq_true rfl) (pc' := 9) rfl (fun r15 h17 z16 => ?_)
  obtain ⟨rfl, hR19, g20, e21⟩ := z16
  have f22 := hF.tr f11 g20
  show am_S _ _ _ _ _ _ _ (9, [some (.ref 16), some (.ref a)], [], h17, 0, 0) _
  refine am_steps ok_Qu_settle 3 (x' := (12, [some (.ref 16), some (.ref a)], [.int 2, .ref a, .ref 16], h17, 0, 0)) rfl (Nat.le_of_ble_eq_true rfl) (Nat.le_of_ble_eq_true rfl) ?_
  obtain ⟨q23, hq24, hd25⟩ := Option.bind_eq_some_iff.mp hd; clear hd; have hd := hd25; clear hd25
  refine ar_cv ok_Qu_settle hk_Qu_end rfl rfl (As := [.ref a, .int 2]) (ad := 16) (rest := []) rfl rfl (hR19.ob (hs_k hR19 (a := 16) rfl) (Nat.le_of_ble_eq_true rfl)) (Nat.le_of_ble_eq_true rfl) (c_Qu_end a 2 q12 h17 hR19 ((ha.up e10).up e21) q23 hq24) (Nat.le_of_ble_eq_true rfl) (Nat.le_of_ble_eq_true rfl) (Nat.le_of_ble_eq_true rfl) (Nat.le_of_ble_eq_true rfl) (pc' := 15) rfl (fun r26 h28 z27 => ?_)
  obtain ⟨rfl, hR30, g31, e32⟩ := z27
  have f33 := hF.tr f22 g31
  show am_S _ _ _ _ _ _ _ (15, [some (.ref 16), some (.ref a)], [], h28, 0, 0) _
  cases hd; exact am_ret ok_Qu_settle rfl (Nat.le_of_ble_eq_true rfl) (Nat.le_of_ble_eq_true rfl) ⟨rfl, hR30, f33, (((hE.rf.tr e10).tr e21).tr e32)⟩
def hl_Qu_settleChosen_7 : Nat → Int32 → Int32 → hS → Option (hS)
  | 0, _, _, _ => none
  | fu + 1, v1, v2, s => if (v2 : Int32) ≤ 0 then (some s) else ((am_ix v1 250).bind fun j2 => (((s.2.2.2.2.2.2 17 j2)).bind fun b5 => ((if ((s.2.1 705 b5) : Int32) = 0 then (some ((v1 + 1), s)) else ((h_Qu_settle b5 s).bind fun q18 => (some (v1, q18)))).bind fun (u9 : Int32 × hS) => (hl_Qu_settleChosen_7 fu u9.1 (v2 + (-1)) u9.2))))
set_option maxHeartbeats 4000000 in
set_option maxRecDepth 100000 in
theorem Lc_Qu_settleChosen_7 {Q : Option Value → am_H → Prop} (sh0 : List (Nat × Nat)) (h0 : am_H) : ∀ (fu : Nat) (v1 : Int32) (v2 : Int32) (s : hS) (h : am_H), RH s h → hF h0 h → hE sh0 s.1 → ∀ q : hS, hl_Qu_settleChosen_7 fu v1 v2 s = some q → (∀ h' : am_H, RH q h' → hF h0 h' → hE sh0 q.1 → am_S am_Pr none 3 66 0 0 222 (45, [some (.ref 16), none, none], [], h', 0, 0) Q) → am_S am_Pr none 3 66 0 0 222 (7, [some (.ref 16), some (.int v1), some (.int v2)], [], h, 0, 0) Q := by
  intro fu
  induction fu with
  | zero => intro v1 v2 s h hR f he  q hd; cases hd
  | succ fu ih =>
    intro v1 v2 s h hR f he  q hd kk
    unfold hl_Qu_settleChosen_7 at hd
    refine am_steps ok_Qu_settleChosen 2 (x' := (if (v2 : Int32) ≤ 0 then 45 else 11, [some (.ref 16), some (.int v1), some (.int v2)], [], h, 0, 0)) rfl (Nat.le_of_ble_eq_true rfl) (Nat.le_of_ble_eq_true rfl) ?_
    refine am_if (fun hc1 => ?_) (fun hc1 => ?_)
    · rw [if_pos hc1] at hd
      refine am_drop 1 ?_
      refine am_drop 2 ?_
      cases hd; exact kk h hR f he 
    · rw [if_neg hc1] at hd
      refine am_steps ok_Qu_settleChosen 1 (x' := (12, [some (.ref 16), some (.int v1), some (.int v2)], [.ref 16], h, 0, 0)) rfl (Nat.le_of_ble_eq_true rfl) (Nat.le_of_ble_eq_true rfl) ?_
      refine hr_get ok_Qu_settleChosen rfl hR (kd := 11) (hs_k hR (a := 16) rfl) rfl (Nat.le_of_ble_eq_true rfl) (Nat.le_of_ble_eq_true rfl) (v := .ref 17) (congrArg va_rf (hR.2.2.2.2.1 (1100, 16, 17) (by decide))) (pc' := 15) rfl (Nat.le_of_ble_eq_true rfl) (Nat.le_of_ble_eq_true rfl) ?_
      refine am_steps ok_Qu_settleChosen 1 (x' := (16, [some (.ref 16), some (.int v1), some (.int v2)], [.int v1, .ref 17], h, 0, 0)) rfl (Nat.le_of_ble_eq_true rfl) (Nat.le_of_ble_eq_true rfl) ?_
      obtain ⟨j2, hx3, hd4⟩ := Option.bind_eq_some_iff.mp hd; clear hd; have hd := hd4; clear hd4
      refine hr_aald ok_Qu_settleChosen rfl hR (kd := 27) (hs_k hR (a := 17) rfl) (by decide) (hs_ln hR rfl) hx3 (pc' := 17) rfl (Nat.le_of_ble_eq_true rfl) (Nat.le_of_ble_eq_true rfl) ?_
      obtain ⟨b5, hb6, hd7⟩ := Option.bind_eq_some_iff.mp hd; clear hd; have hd := hd7; clear hd7
      have hk8 := (fun b hb => hR.2.2.2.1 _ _ (hK.ln (hs_k hR (a := 17) rfl)) _ b hb) b5 hb6
      rw [hb6]
      show am_S _ _ _ _ _ _ _ (17, [some (.ref 16), some (.int v1), some (.int v2)], [.ref b5], h, 0, 0) _
      refine hr_get ok_Qu_settleChosen rfl hR (kd := 7) hk8 rfl (Nat.le_of_ble_eq_true rfl) (Nat.le_of_ble_eq_true rfl) (v := .int (s.2.1 705 b5)) rfl (pc' := 20) rfl (Nat.le_of_ble_eq_true rfl) (Nat.le_of_ble_eq_true rfl) ?_
      refine am_steps ok_Qu_settleChosen 1 (x' := (if ((s.2.1 705 b5) : Int32) = 0 then 36 else 23, [some (.ref 16), some (.int v1), some (.int v2)], [], h, 0, 0)) rfl (Nat.le_of_ble_eq_true rfl) (Nat.le_of_ble_eq_true rfl) ?_
      obtain ⟨u9, hA11, hB12⟩ := Option.bind_eq_some_iff.mp hd; clear hd
      have K10 : ∀ h' : am_H, RH u9.2 h' → hF h0 h' → hE s.1 u9.2.1 → am_S am_Pr none 3 66 0 0 222 (39, [some (.ref 16), some (.int u9.1), some (.int v2)], [], h', 0, 0) Q := by
        have hd := hB12
        intro h13 hR14 f15 e16
        refine am_steps ok_Qu_settleChosen 2 (x' := (7, [some (.ref 16), some (.int u9.1), some (.int (v2 + (-1)))], [], h13, 0, 0)) rfl (Nat.le_of_ble_eq_true rfl) (Nat.le_of_ble_eq_true rfl) ?_
        exact ih u9.1 (v2 + (-1)) u9.2 h13 hR14 f15 (he.tr e16)  q hd kk
      clear hB12; have hd := hA11; clear hA11
      refine am_if (fun hc17 => ?_) (fun hc17 => ?_)
      · rw [if_pos hc17] at hd
        refine am_steps ok_Qu_settleChosen 1 (x' := (39, [some (.ref 16), some (.int (v1 + 1)), some (.int v2)], [], h, 0, 0)) rfl (Nat.le_of_ble_eq_true rfl) (Nat.le_of_ble_eq_true rfl) ?_
        cases hd; exact K10 h hR f hE.rf
      · rw [if_neg hc17] at hd
        refine am_steps ok_Qu_settleChosen 2 (x' := (25, [some (.ref 16), some (.int v1), some (.int v2)], [.ref 16, .ref 16], h, 0, 0)) rfl (Nat.le_of_ble_eq_true rfl) (Nat.le_of_ble_eq_true rfl) ?_
        refine hr_get ok_Qu_settleChosen rfl hR (kd := 11) (hs_k hR (a := 16) rfl) rfl (Nat.le_of_ble_eq_true rfl) (Nat.le_of_ble_eq_true rfl) (v := .ref 17) (congrArg va_rf (hR.2.2.2.2.1 (1100, 16, 17) (by decide))) (pc' := 28) rfl (Nat.le_of_ble_eq_true rfl) (Nat.le_of_ble_eq_true rfl) ?_
        refine am_steps ok_Qu_settleChosen 1 (x' := (29, [some (.ref 16), some (.int v1), some (.int v2)], [.int v1, .ref 17, .ref 16], h, 0, 0)) rfl (Nat.le_of_ble_eq_true rfl) (Nat.le_of_ble_eq_true rfl) ?_
        refine hr_aald ok_Qu_settleChosen rfl hR (kd := 27) (hs_k hR (a := 17) rfl) (by decide) (hs_ln hR rfl) hx3 (pc' := 30) rfl (Nat.le_of_ble_eq_true rfl) (Nat.le_of_ble_eq_true rfl) ?_
        show am_S _ _ _ _ _ _ _ (30, [some (.ref 16), some (.int v1), some (.int v2)], [va_rf (s.2.2.2.2.2.2 17 j2), .ref 16], h, 0, 0) _
        rw [show va_rf (s.2.2.2.2.2.2 17 j2) = .ref b5 from congrArg va_rf hb6]
        show am_S _ _ _ _ _ _ _ (30, [some (.ref 16), some (.int v1), some (.int v2)], [.ref b5, .ref 16], h, 0, 0) _
        obtain ⟨q18, hq19, hd20⟩ := Option.bind_eq_some_iff.mp hd; clear hd; have hd := hd20; clear hd20
        refine ar_cv ok_Qu_settleChosen hk_Qu_settle rfl rfl (As := [.ref b5]) (ad := 16) (rest := []) rfl rfl (hR.ob (hs_k hR (a := 16) rfl) (Nat.le_of_ble_eq_true rfl)) (Nat.le_of_ble_eq_true rfl) (c_Qu_settle b5 s h hR hk8 q18 hq19) (Nat.le_of_ble_eq_true rfl) (Nat.le_of_ble_eq_true rfl) (Nat.le_of_ble_eq_true rfl) (Nat.le_of_ble_eq_true rfl) (pc' := 33) rfl (fun r21 h23 z22 => ?_)
        obtain ⟨rfl, hR25, g26, e27⟩ := z22
        have f28 := hF.tr f g26
        show am_S _ _ _ _ _ _ _ (33, [some (.ref 16), some (.int v1), some (.int v2)], [], h23, 0, 0) _
        refine am_steps ok_Qu_settleChosen 1 (x' := (39, [some (.ref 16), some (.int v1), some (.int v2)], [], h23, 0, 0)) rfl (Nat.le_of_ble_eq_true rfl) (Nat.le_of_ble_eq_true rfl) ?_
        cases hd; exact K10 h23 hR25 f28 e27
def h_Qu_settleChosen  (S : hS) : Option (hS) := (hl_Qu_settleChosen_7 100000 0 (S.2.1 1101 16) S).bind fun q29 => (some q29)
set_option maxHeartbeats 4000000 in
set_option maxRecDepth 100000 in
theorem c_Qu_settleChosen  (S : hS) (h0 : am_H) (hR : RH S h0)  (q : hS) (hd : h_Qu_settleChosen  S = some q) : am_Me am_Pr none 3 66 0 0 222 [.ref 16] h0 (hQv q S.1 h0) := by
  refine am_enter (d := hd_Qu_settleChosen) rfl (by decide +kernel) (Nat.le_of_ble_eq_true rfl) ?_
  show am_S _ _ _ _ _ _ _ (0, [some (.ref 16), none, none], [], h0, 0, 0) _
  unfold h_Qu_settleChosen at hd
  refine am_steps ok_Qu_settleChosen 3 (x' := (3, [some (.ref 16), some (.int 0), none], [.ref 16], h0, 0, 0)) rfl (Nat.le_of_ble_eq_true rfl) (Nat.le_of_ble_eq_true rfl) ?_
  refine hr_get ok_Qu_settleChosen rfl hR (kd := 11) (hs_k hR (a := 16) rfl) rfl (Nat.le_of_ble_eq_true rfl) (Nat.le_of_ble_eq_true rfl) (v := .int (S.2.1 1101 16)) rfl (pc' := 6) rfl (Nat.le_of_ble_eq_true rfl) (Nat.le_of_ble_eq_true rfl) ?_
  refine am_steps ok_Qu_settleChosen 1 (x' := (7, [some (.ref 16), some (.int 0), some (.int (S.2.1 1101 16))], [], h0, 0, 0)) rfl (Nat.le_of_ble_eq_true rfl) (Nat.le_of_ble_eq_true rfl) ?_
  obtain ⟨q29, hq30, hd31⟩ := Option.bind_eq_some_iff.mp hd; clear hd; have hd := hd31; clear hd31
  refine Lc_Qu_settleChosen_7 S.1 h0 100000 0 (S.2.1 1101 16) S h0 hR hF.rf hE.rf  q29 hq30 (fun h32 hR33 f34 e35 => ?_)
  show am_S _ _ _ _ _ _ _ (45, [some (.ref 16), none, none], [], h32, 0, 0) _
  cases hd; exact am_ret ok_Qu_settleChosen rfl (Nat.le_of_ble_eq_true rfl) (Nat.le_of_ble_eq_true rfl) ⟨rfl, hR33, f34, (hE.rf.tr e35)⟩
def hl_Qu_resolve_2 : Nat → Int32 → hS → Option (hS)
  | 0, _, _ => none
  | fu + 1, v1, s => if ((s.2.1 1101 16) : Int32) ≤ v1 then (some s) else ((am_ix v1 250).bind fun j2 => (((s.2.2.2.2.2.2 17 j2)).bind fun b5 => ((h_In_beginTrial b5 s).bind fun q9 => (hl_Qu_resolve_2 fu (v1 + 1) q9))))
set_option maxHeartbeats 4000000 in
set_option maxRecDepth 100000 in
theorem Lc_Qu_resolve_2 {Q : Option Value → am_H → Prop} (sh0 : List (Nat × Nat)) (h0 : am_H) : ∀ (fu : Nat) (v1 : Int32) (s : hS) (h : am_H), RH s h → hF h0 h → hE sh0 s.1 → ∀ q : hS, hl_Qu_resolve_2 fu v1 s = some q → (∀ h' : am_H, RH q h' → hF h0 h' → hE sh0 q.1 → am_S am_Pr none 4 88 0 0 219 (25, [some (.ref 16), none, none], [], h', 0, 0) Q) → am_S am_Pr none 4 88 0 0 219 (2, [some (.ref 16), some (.int v1), none], [], h, 0, 0) Q := by
  intro fu
  induction fu with
  | zero => intro v1 s h hR f he  q hd; cases hd
  | succ fu ih =>
    intro v1 s h hR f he  q hd kk
    unfold hl_Qu_resolve_2 at hd
    refine am_steps ok_Qu_resolve 2 (x' := (4, [some (.ref 16), some (.int v1), none], [.ref 16, .int v1], h, 0, 0)) rfl (Nat.le_of_ble_eq_true rfl) (Nat.le_of_ble_eq_true rfl) ?_
    refine hr_get ok_Qu_resolve rfl hR (kd := 11) (hs_k hR (a := 16) rfl) rfl (Nat.le_of_ble_eq_true rfl) (Nat.le_of_ble_eq_true rfl) (v := .int (s.2.1 1101 16)) rfl (pc' := 7) rfl (Nat.le_of_ble_eq_true rfl) (Nat.le_of_ble_eq_true rfl) ?_
    refine am_steps ok_Qu_resolve 1 (x' := (if ((s.2.1 1101 16) : Int32) ≤ v1 then 25 else 10, [some (.ref 16), some (.int v1), none], [], h, 0, 0)) rfl (Nat.le_of_ble_eq_true rfl) (Nat.le_of_ble_eq_true rfl) ?_
    refine am_if (fun hc1 => ?_) (fun hc1 => ?_)
    · rw [if_pos hc1] at hd
      refine am_drop 1 ?_
      cases hd; exact kk h hR f he 
    · rw [if_neg hc1] at hd
      refine am_steps ok_Qu_resolve 1 (x' := (11, [some (.ref 16), some (.int v1), none], [.ref 16], h, 0, 0)) rfl (Nat.le_of_ble_eq_true rfl) (Nat.le_of_ble_eq_true rfl) ?_
      refine hr_get ok_Qu_resolve rfl hR (kd := 11) (hs_k hR (a := 16) rfl) rfl (Nat.le_of_ble_eq_true rfl) (Nat.le_of_ble_eq_true rfl) (v := .ref 17) (congrArg va_rf (hR.2.2.2.2.1 (1100, 16, 17) (by decide))) (pc' := 14) rfl (Nat.le_of_ble_eq_true rfl) (Nat.le_of_ble_eq_true rfl) ?_
      refine am_steps ok_Qu_resolve 1 (x' := (15, [some (.ref 16), some (.int v1), none], [.int v1, .ref 17], h, 0, 0)) rfl (Nat.le_of_ble_eq_true rfl) (Nat.le_of_ble_eq_true rfl) ?_
      obtain ⟨j2, hx3, hd4⟩ := Option.bind_eq_some_iff.mp hd; clear hd; have hd := hd4; clear hd4
      refine hr_aald ok_Qu_resolve rfl hR (kd := 27) (hs_k hR (a := 17) rfl) (by decide) (hs_ln hR rfl) hx3 (pc' := 16) rfl (Nat.le_of_ble_eq_true rfl) (Nat.le_of_ble_eq_true rfl) ?_
      obtain ⟨b5, hb6, hd7⟩ := Option.bind_eq_some_iff.mp hd; clear hd; have hd := hd7; clear hd7
      have hk8 := (fun b hb => hR.2.2.2.1 _ _ (hK.ln (hs_k hR (a := 17) rfl)) _ b hb) b5 hb6
      rw [hb6]
      show am_S _ _ _ _ _ _ _ (16, [some (.ref 16), some (.int v1), none], [.ref b5], h, 0, 0) _
      obtain ⟨q9, hq10, hd11⟩ := Option.bind_eq_some_iff.mp hd; clear hd; have hd := hd11; clear hd11
      refine ar_cv ok_Qu_resolve hk_In_beginTrial rfl rfl (As := []) (ad := b5) (rest := []) rfl rfl (hR.ob hk8 (Nat.le_of_ble_eq_true rfl)) (Nat.le_of_ble_eq_true rfl) (c_In_beginTrial b5 s h hR hk8 q9 hq10) (Nat.le_of_ble_eq_true rfl) (Nat.le_of_ble_eq_true rfl) (Nat.le_of_ble_eq_true rfl) (Nat.le_of_ble_eq_true rfl) (pc' := 19) rfl (fun r12 h14 z13 => ?_)
      obtain ⟨rfl, hR16, g17, e18⟩ := z13
      have f19 := hF.tr f g17
      show am_S _ _ _ _ _ _ _ (19, [some (.ref 16), some (.int v1), none], [], h14, 0, 0) _
      refine am_steps ok_Qu_resolve 2 (x' := (2, [some (.ref 16), some (.int (v1 + 1)), none], [], h14, 0, 0)) rfl (Nat.le_of_ble_eq_true rfl) (Nat.le_of_ble_eq_true rfl) ?_
      exact ih (v1 + 1) q9 h14 hR16 f19 (he.tr e18)  q hd kk
def hl_Qu_resolve_27 : Nat → Int32 → hS → Option (hS)
  | 0, _, _ => none
  | fu + 1, v1, s => if ((s.2.1 1101 16) : Int32) ≤ v1 then (some s) else ((am_ix v1 250).bind fun j28 => (((s.2.2.2.2.2.2 17 j28)).bind fun b31 => ((h_In_joinTrial b31 s).bind fun q35 => (hl_Qu_resolve_27 fu (v1 + 1) q35))))
set_option maxHeartbeats 4000000 in
set_option maxRecDepth 100000 in
theorem Lc_Qu_resolve_27 {Q : Option Value → am_H → Prop} (sh0 : List (Nat × Nat)) (h0 : am_H) : ∀ (fu : Nat) (v1 : Int32) (s : hS) (h : am_H), RH s h → hF h0 h → hE sh0 s.1 → ∀ q : hS, hl_Qu_resolve_27 fu v1 s = some q → (∀ h' : am_H, RH q h' → hF h0 h' → hE sh0 q.1 → am_S am_Pr none 4 88 0 0 219 (50, [some (.ref 16), none, none], [], h', 0, 0) Q) → am_S am_Pr none 4 88 0 0 219 (27, [some (.ref 16), some (.int v1), none], [], h, 0, 0) Q := by
  intro fu
  induction fu with
  | zero => intro v1 s h hR f he  q hd; cases hd
  | succ fu ih =>
    intro v1 s h hR f he  q hd kk
    unfold hl_Qu_resolve_27 at hd
    refine am_steps ok_Qu_resolve 2 (x' := (29, [some (.ref 16), some (.int v1), none], [.ref 16, .int v1], h, 0, 0)) rfl (Nat.le_of_ble_eq_true rfl) (Nat.le_of_ble_eq_true rfl) ?_
    refine hr_get ok_Qu_resolve rfl hR (kd := 11) (hs_k hR (a := 16) rfl) rfl (Nat.le_of_ble_eq_true rfl) (Nat.le_of_ble_eq_true rfl) (v := .int (s.2.1 1101 16)) rfl (pc' := 32) rfl (Nat.le_of_ble_eq_true rfl) (Nat.le_of_ble_eq_true rfl) ?_
    refine am_steps ok_Qu_resolve 1 (x' := (if ((s.2.1 1101 16) : Int32) ≤ v1 then 50 else 35, [some (.ref 16), some (.int v1), none], [], h, 0, 0)) rfl (Nat.le_of_ble_eq_true rfl) (Nat.le_of_ble_eq_true rfl) ?_
    refine am_if (fun hc27 => ?_) (fun hc27 => ?_)
    · rw [if_pos hc27] at hd
      refine am_drop 1 ?_
      cases hd; exact kk h hR f he 
    · rw [if_neg hc27] at hd
      refine am_steps ok_Qu_resolve 1 (x' := (36, [some (.ref 16), some (.int v1), none], [.ref 16], h, 0, 0)) rfl (Nat.le_of_ble_eq_true rfl) (Nat.le_of_ble_eq_true rfl) ?_
      refine hr_get ok_Qu_resolve rfl hR (kd := 11) (hs_k hR (a := 16) rfl) rfl (Nat.le_of_ble_eq_true rfl) (Nat.le_of_ble_eq_true rfl) (v := .ref 17) (congrArg va_rf (hR.2.2.2.2.1 (1100, 16, 17) (by decide))) (pc' := 39) rfl (Nat.le_of_ble_eq_true rfl) (Nat.le_of_ble_eq_true rfl) ?_
      refine am_steps ok_Qu_resolve 1 (x' := (40, [some (.ref 16), some (.int v1), none], [.int v1, .ref 17], h, 0, 0)) rfl (Nat.le_of_ble_eq_true rfl) (Nat.le_of_ble_eq_true rfl) ?_
      obtain ⟨j28, hx29, hd30⟩ := Option.bind_eq_some_iff.mp hd; clear hd; have hd := hd30; clear hd30
      refine hr_aald ok_Qu_resolve rfl hR (kd := 27) (hs_k hR (a := 17) rfl) (by decide) (hs_ln hR rfl) hx29 (pc' := 41) rfl (Nat.le_of_ble_eq_true rfl) (Nat.le_of_ble_eq_true rfl) ?_
      obtain ⟨b31, hb32, hd33⟩ := Option.bind_eq_some_iff.mp hd; clear hd; have hd := hd33; clear hd33
      have hk34 := (fun b hb => hR.2.2.2.1 _ _ (hK.ln (hs_k hR (a := 17) rfl)) _ b hb) b31 hb32
      rw [hb32]
      show am_S _ _ _ _ _ _ _ (41, [some (.ref 16), some (.int v1), none], [.ref b31], h, 0, 0) _
      obtain ⟨q35, hq36, hd37⟩ := Option.bind_eq_some_iff.mp hd; clear hd; have hd := hd37; clear hd37
      refine ar_cv ok_Qu_resolve hk_In_joinTrial rfl rfl (As := []) (ad := b31) (rest := []) rfl rfl (hR.ob hk34 (Nat.le_of_ble_eq_true rfl)) (Nat.le_of_ble_eq_true rfl) (c_In_joinTrial b31 s h hR hk34 q35 hq36) (Nat.le_of_ble_eq_true rfl) (Nat.le_of_ble_eq_true rfl) (Nat.le_of_ble_eq_true rfl) (Nat.le_of_ble_eq_true rfl) (pc' := 44) rfl (fun r38 h40 z39 => ?_)
      obtain ⟨rfl, hR42, g43, e44⟩ := z39
      have f45 := hF.tr f g43
      show am_S _ _ _ _ _ _ _ (44, [some (.ref 16), some (.int v1), none], [], h40, 0, 0) _
      refine am_steps ok_Qu_resolve 2 (x' := (27, [some (.ref 16), some (.int (v1 + 1)), none], [], h40, 0, 0)) rfl (Nat.le_of_ble_eq_true rfl) (Nat.le_of_ble_eq_true rfl) ?_
      exact ih (v1 + 1) q35 h40 hR42 f45 (he.tr e44)  q hd kk
def hl_Qu_resolve_54 : Nat → Int32 → Int32 → hS → Option (hS)
  | 0, _, _, _ => none
  | fu + 1, v1, v2, s => if (250 : Int32) < v2 then (some s) else (if (v1 : Int32) = 0 then (some s) else ((h_Qu_dropTooMany  s).bind fun q55 => ((h_Qu_dropFollowers  q55.2).bind fun q66 => (hl_Qu_resolve_54 fu q55.1 (v2 + 1) q66))))
set_option maxHeartbeats 4000000 in
set_option maxRecDepth 100000 in
theorem Lc_Qu_resolve_54 {Q : Option Value → am_H → Prop} (sh0 : List (Nat × Nat)) (h0 : am_H) : ∀ (fu : Nat) (v1 : Int32) (v2 : Int32) (s : hS) (h : am_H), RH s h → hF h0 h → hE sh0 s.1 → ∀ q : hS, hl_Qu_resolve_54 fu v1 v2 s = some q → (∀ h' : am_H, RH q h' → hF h0 h' → hE sh0 q.1 → am_S am_Pr none 4 88 0 0 219 (80, [some (.ref 16), none, none], [], h', 0, 0) Q) → am_S am_Pr none 4 88 0 0 219 (54, [some (.ref 16), some (.int v1), some (.int v2)], [], h, 0, 0) Q := by
  intro fu
  induction fu with
  | zero => intro v1 v2 s h hR f he  q hd; cases hd
  | succ fu ih =>
    intro v1 v2 s h hR f he  q hd kk
    unfold hl_Qu_resolve_54 at hd
    refine am_steps ok_Qu_resolve 3 (x' := (if (250 : Int32) < v2 then 80 else 61, [some (.ref 16), some (.int v1), some (.int v2)], [], h, 0, 0)) rfl (Nat.le_of_ble_eq_true rfl) (Nat.le_of_ble_eq_true rfl) ?_
    refine am_if (fun hc53 => ?_) (fun hc53 => ?_)
    · rw [if_pos hc53] at hd
      refine am_drop 1 ?_
      refine am_drop 2 ?_
      cases hd; exact kk h hR f he 
    · rw [if_neg hc53] at hd
      refine am_steps ok_Qu_resolve 2 (x' := (if (v1 : Int32) = 0 then 80 else 65, [some (.ref 16), some (.int v1), some (.int v2)], [], h, 0, 0)) rfl (Nat.le_of_ble_eq_true rfl) (Nat.le_of_ble_eq_true rfl) ?_
      refine am_if (fun hc54 => ?_) (fun hc54 => ?_)
      · rw [if_pos hc54] at hd
        refine am_drop 1 ?_
        refine am_drop 2 ?_
        cases hd; exact kk h hR f he 
      · rw [if_neg hc54] at hd
        refine am_steps ok_Qu_resolve 1 (x' := (66, [some (.ref 16), some (.int v1), some (.int v2)], [.ref 16], h, 0, 0)) rfl (Nat.le_of_ble_eq_true rfl) (Nat.le_of_ble_eq_true rfl) ?_
        obtain ⟨q55, hq56, hd57⟩ := Option.bind_eq_some_iff.mp hd; clear hd; have hd := hd57; clear hd57
        refine ar_cv ok_Qu_resolve hk_Qu_dropTooMany rfl rfl (As := []) (ad := 16) (rest := []) rfl rfl (hR.ob (hs_k hR (a := 16) rfl) (Nat.le_of_ble_eq_true rfl)) (Nat.le_of_ble_eq_true rfl) (c_Qu_dropTooMany  s h hR  q55 hq56) (Nat.le_of_ble_eq_true rfl) (Nat.le_of_ble_eq_true rfl) (Nat.le_of_ble_eq_true rfl) (Nat.le_of_ble_eq_true rfl) (pc' := 69) rfl (fun r58 h60 z59 => ?_)
        obtain ⟨rfl, hR62, g63, e64⟩ := z59
        have f65 := hF.tr f g63
        show am_S _ _ _ _ _ _ _ (69, [some (.ref 16), some (.int v1), some (.int v2)], [.int q55.1], h60, 0, 0) _
        refine am_steps ok_Qu_resolve 2 (x' := (71, [some (.ref 16), some (.int q55.1), some (.int v2)], [.ref 16], h60, 0, 0)) rfl (Nat.le_of_ble_eq_true rfl) (Nat.le_of_ble_eq_true rfl) ?_
        obtain ⟨q66, hq67, hd68⟩ := Option.bind_eq_some_iff.mp hd; clear hd; have hd := hd68; clear hd68
        refine ar_cv ok_Qu_resolve hk_Qu_dropFollowers rfl rfl (As := []) (ad := 16) (rest := []) rfl rfl (hR62.ob (hs_k hR62 (a := 16) rfl) (Nat.le_of_ble_eq_true rfl)) (Nat.le_of_ble_eq_true rfl) (c_Qu_dropFollowers  q55.2 h60 hR62  q66 hq67) (Nat.le_of_ble_eq_true rfl) (Nat.le_of_ble_eq_true rfl) (Nat.le_of_ble_eq_true rfl) (Nat.le_of_ble_eq_true rfl) (pc' := 74) rfl (fun r69 h71 z70 => ?_)
        obtain ⟨rfl, hR73, g74, e75⟩ := z70
        have f76 := hF.tr f65 g74
        show am_S _ _ _ _ _ _ _ (74, [some (.ref 16), some (.int q55.1), some (.int v2)], [], h71, 0, 0) _
        refine am_steps ok_Qu_resolve 2 (x' := (54, [some (.ref 16), some (.int q55.1), some (.int (v2 + 1))], [], h71, 0, 0)) rfl (Nat.le_of_ble_eq_true rfl) (Nat.le_of_ble_eq_true rfl) ?_
        exact ih q55.1 (v2 + 1) q66 h71 hR73 f76 ((he.tr e64).tr e75)  q hd kk
def h_Qu_resolve  (S : hS) : Option (hS) := (hl_Qu_resolve_2 100000 0 S).bind fun q20 => ((hl_Qu_resolve_27 100000 0 q20).bind fun q46 => ((hl_Qu_resolve_54 100000 1 0 q46).bind fun q77 => ((h_Qu_settleChosen  q77).bind fun q84 => (some q84))))
set_option maxHeartbeats 4000000 in
set_option maxRecDepth 100000 in
theorem c_Qu_resolve  (S : hS) (h0 : am_H) (hR : RH S h0)  (q : hS) (hd : h_Qu_resolve  S = some q) : am_Me am_Pr none 4 88 0 0 219 [.ref 16] h0 (hQv q S.1 h0) := by
  refine am_enter (d := hd_Qu_resolve) rfl (by decide +kernel) (Nat.le_of_ble_eq_true rfl) ?_
  show am_S _ _ _ _ _ _ _ (0, [some (.ref 16), none, none], [], h0, 0, 0) _
  unfold h_Qu_resolve at hd
  refine am_steps ok_Qu_resolve 2 (x' := (2, [some (.ref 16), some (.int 0), none], [], h0, 0, 0)) rfl (Nat.le_of_ble_eq_true rfl) (Nat.le_of_ble_eq_true rfl) ?_
  obtain ⟨q20, hq21, hd22⟩ := Option.bind_eq_some_iff.mp hd; clear hd; have hd := hd22; clear hd22
  refine Lc_Qu_resolve_2 S.1 h0 100000 0 S h0 hR hF.rf hE.rf  q20 hq21 (fun h23 hR24 f25 e26 => ?_)
  show am_S _ _ _ _ _ _ _ (25, [some (.ref 16), none, none], [], h23, 0, 0) _
  refine am_steps ok_Qu_resolve 2 (x' := (27, [some (.ref 16), some (.int 0), none], [], h23, 0, 0)) rfl (Nat.le_of_ble_eq_true rfl) (Nat.le_of_ble_eq_true rfl) ?_
  obtain ⟨q46, hq47, hd48⟩ := Option.bind_eq_some_iff.mp hd; clear hd; have hd := hd48; clear hd48
  refine Lc_Qu_resolve_27 q20.1 h0 100000 0 q20 h23 hR24 f25 hE.rf  q46 hq47 (fun h49 hR50 f51 e52 => ?_)
  show am_S _ _ _ _ _ _ _ (50, [some (.ref 16), none, none], [], h49, 0, 0) _
  refine am_steps ok_Qu_resolve 4 (x' := (54, [some (.ref 16), some (.int 1), some (.int 0)], [], h49, 0, 0)) rfl (Nat.le_of_ble_eq_true rfl) (Nat.le_of_ble_eq_true rfl) ?_
  obtain ⟨q77, hq78, hd79⟩ := Option.bind_eq_some_iff.mp hd; clear hd; have hd := hd79; clear hd79
  refine Lc_Qu_resolve_54 q46.1 h0 100000 1 0 q46 h49 hR50 f51 hE.rf  q77 hq78 (fun h80 hR81 f82 e83 => ?_)
  show am_S _ _ _ _ _ _ _ (80, [some (.ref 16), none, none], [], h80, 0, 0) _
  refine am_steps ok_Qu_resolve 1 (x' := (81, [some (.ref 16), none, none], [.ref 16], h80, 0, 0)) rfl (Nat.le_of_ble_eq_true rfl) (Nat.le_of_ble_eq_true rfl) ?_
  obtain ⟨q84, hq85, hd86⟩ := Option.bind_eq_some_iff.mp hd; clear hd; have hd := hd86; clear hd86
  refine ar_cv ok_Qu_resolve hk_Qu_settleChosen rfl rfl (As := []) (ad := 16) (rest := []) rfl rfl (hR81.ob (hs_k hR81 (a := 16) rfl) (Nat.le_of_ble_eq_true rfl)) (Nat.le_of_ble_eq_true rfl) (c_Qu_settleChosen  q77 h80 hR81  q84 hq85) (Nat.le_of_ble_eq_true rfl) (Nat.le_of_ble_eq_true rfl) (Nat.le_of_ble_eq_true rfl) (Nat.le_of_ble_eq_true rfl) (pc' := 84) rfl (fun r87 h89 z88 => ?_)
  obtain ⟨rfl, hR91, g92, e93⟩ := z88
  have f94 := hF.tr f82 g92
  show am_S _ _ _ _ _ _ _ (84, [some (.ref 16), none, none], [], h89, 0, 0) _
  cases hd; exact am_ret ok_Qu_resolve rfl (Nat.le_of_ble_eq_true rfl) (Nat.le_of_ble_eq_true rfl) ⟨rfl, hR91, f94, ((((hE.rf.tr e26).tr e52).tr e83).tr e93)⟩
def h_De_change  (S : hS) : Option (hS) := if (S.2.1 804 2) = 0 then ((h_Bo_addParticipant (S.2.1 814 2) S).bind fun q3 => (some q3)) else (if (S.2.1 804 2) = 1 then ((hs_al S).bind fun a17 => ((am_ix 0 4).bind fun j26 => ((h_As_init a17 ((hNew S 3 0).2.1 814 2) ((hNew S 3 0).2.1 815 2) ((hNew S 3 0).2.2.2.2.2.1 6 j26) ((hNew S 3 0).2.1 816 2) (hNew S 3 0)).bind fun q29 => ((h_Bo_addAsset a17 q29).bind fun q40 => (some q40))))) else (if (S.2.1 804 2) = 2 then ((am_ix 0 12).bind fun j54 => ((am_ix 0 4).bind fun j57 => ((h_Bo_setPrice (S.2.2.2.2.1 5 j54) (S.2.2.2.2.2.1 6 j57) (S.2.1 816 2) S).bind fun q60 => (some q60)))) else (if (S.2.1 804 2) = 3 then ((am_ix 0 12).bind fun j74 => ((am_ix 1 12).bind fun j77 => ((am_ix 0 4).bind fun j80 => ((h_Bo_give (S.2.2.2.2.1 5 j74) (S.2.2.2.2.1 5 j77) (S.2.2.2.2.2.1 6 j80) S).bind fun q83 => (some q83))))) else (if (S.2.1 804 2) = 4 then ((am_ix 0 12).bind fun j97 => ((am_ix 1 12).bind fun j100 => ((am_ix 0 4).bind fun j103 => ((h_Bo_give (S.2.2.2.2.1 5 j97) (S.2.2.2.2.1 5 j100) (-(S.2.2.2.2.2.1 6 j103)) S).bind fun q106 => (some q106))))) else (if (S.2.1 804 2) = 7 then ((h_Qu_find (S.2.1 813 2) (S.2.2.1 818 2) S).bind fun q120 => ((h_Qu_leave q120 S).bind fun q128 => (some q128))) else (if (S.2.1 804 2) = 8 then ((h_Qu_find (S.2.1 813 2) (S.2.2.1 818 2) S).bind fun q142 => ((h_De_putBehind q142 (S.2.1 817 2) S).bind fun q150 => (some q150))) else (if (S.2.1 804 2) = 9 then ((am_ix 0 12).bind fun j164 => ((h_Bo_room (S.2.1 813 2) (S.2.2.2.2.1 5 j164) S).bind fun q167 => ((am_ix 0 4).bind fun j178 => ((h_Bo_setLimit q167.1 (q167.2.2.2.2.2.2.1 6 j178) q167.2).bind fun q181 => (some q181))))) else (if (S.2.1 804 2) = 10 then ((am_ix 0 12).bind fun j195 => ((h_Bo_room (S.2.1 813 2) (S.2.2.2.2.1 5 j195) S).bind fun q198 => ((h_Bo_dropLimit q198.1 q198.2).bind fun q209 => (some q209)))) else (if (S.2.1 804 2) = 11 then ((am_ix 0 4).bind fun j223 => ((h_De_pledgeMore (S.2.2.2.2.2.1 6 j223) S).bind fun q226 => (some q226))) else (if (S.2.1 804 2) = 12 then ((am_ix 0 4).bind fun j240 => ((h_De_pledgeMore (-(S.2.2.2.2.2.1 6 j240)) S).bind fun q243 => (some q243))) else (if (S.2.1 804 2) = 13 then ((h_Qu_resolve  S).bind fun q257 => (some q257)) else (some S))))))))))))
set_option maxHeartbeats 4000000 in
set_option maxRecDepth 100000 in
theorem c_De_change  (S : hS) (h0 : am_H) (hR : RH S h0)  (q : hS) (hd : h_De_change  S = some q) : am_Me am_Pr none 8 175 257 2570 154 [.ref 20, .ref 2] h0 (hQv q S.1 h0) := by
  refine am_enter (d := hd_De_change) rfl (by decide +kernel) (Nat.le_of_ble_eq_true rfl) ?_
  show am_S _ _ _ _ _ _ _ (0, [some (.ref 20), some (.ref 2)], [], h0, 0, 0) _
  unfold h_De_change at hd
  refine am_steps ok_De_change 1 (x' := (1, [some (.ref 20), some (.ref 2)], [.ref 2], h0, 0, 0)) rfl (Nat.le_of_ble_eq_true rfl) (Nat.le_of_ble_eq_true rfl) ?_
  refine hr_get ok_De_change rfl hR (kd := 8) (hs_k hR (a := 2) rfl) rfl (Nat.le_of_ble_eq_true rfl) (Nat.le_of_ble_eq_true rfl) (v := .int (S.2.1 804 2)) rfl (pc' := 4) rfl (Nat.le_of_ble_eq_true rfl) (Nat.le_of_ble_eq_true rfl) ?_
  by_cases hc1 : (S.2.1 804 2) = 0
  · rw [if_pos hc1] at hd
    have KT2 : am_S am_Pr none 8 175 257 2570 154 (76, [some (.ref 20), some (.ref 2)], [], h0, 0, 0) (hQv q S.1 h0) := by
      refine am_steps ok_De_change 1 (x' := (77, [some (.ref 20), some (.ref 2)], [.ref 20], h0, 0, 0)) rfl (Nat.le_of_ble_eq_true rfl) (Nat.le_of_ble_eq_true rfl) ?_
      refine hr_get ok_De_change rfl hR (kd := 5) (hs_k hR (a := 20) rfl) rfl (Nat.le_of_ble_eq_true rfl) (Nat.le_of_ble_eq_true rfl) (v := .ref 10) (congrArg va_rf (hR.2.2.2.2.1 (500, 20, 10) (by decide))) (pc' := 80) rfl (Nat.le_of_ble_eq_true rfl) (Nat.le_of_ble_eq_true rfl) ?_
      refine am_steps ok_De_change 1 (x' := (81, [some (.ref 20), some (.ref 2)], [.ref 2, .ref 10], h0, 0, 0)) rfl (Nat.le_of_ble_eq_true rfl) (Nat.le_of_ble_eq_true rfl) ?_
      refine hr_get ok_De_change rfl hR (kd := 8) (hs_k hR (a := 2) rfl) rfl (Nat.le_of_ble_eq_true rfl) (Nat.le_of_ble_eq_true rfl) (v := .int (S.2.1 814 2)) rfl (pc' := 84) rfl (Nat.le_of_ble_eq_true rfl) (Nat.le_of_ble_eq_true rfl) ?_
      obtain ⟨q3, hq4, hd5⟩ := Option.bind_eq_some_iff.mp hd; clear hd; have hd := hd5; clear hd5
      refine ar_cv ok_De_change hk_Bo_addParticipant rfl rfl (As := [.int (S.2.1 814 2)]) (ad := 10) (rest := []) rfl rfl (hR.ob (hs_k hR (a := 10) rfl) (Nat.le_of_ble_eq_true rfl)) (Nat.le_of_ble_eq_true rfl) (c_Bo_addParticipant (S.2.1 814 2) S h0 hR  q3 hq4) (Nat.le_of_ble_eq_true rfl) (Nat.le_of_ble_eq_true rfl) (Nat.le_of_ble_eq_true rfl) (Nat.le_of_ble_eq_true rfl) (pc' := 87) rfl (fun r6 h8 z7 => ?_)
      obtain ⟨rfl, hR10, g11, e12⟩ := z7
      have f13 := hF.tr hF.rf g11
      show am_S _ _ _ _ _ _ _ (87, [some (.ref 20), some (.ref 2)], [], h8, 3, 72) _
      refine am_steps ok_De_change 1 (x' := (358, [some (.ref 20), some (.ref 2)], [], h8, 3, 72)) rfl (Nat.le_of_ble_eq_true rfl) (Nat.le_of_ble_eq_true rfl) ?_
      cases hd; exact am_ret ok_De_change rfl (Nat.le_of_ble_eq_true rfl) (Nat.le_of_ble_eq_true rfl) ⟨rfl, hR10, f13, (hE.rf.tr e12)⟩
    exact ar_tswk ok_De_change rfl hc1 (by decide +kernel) rfl rfl (Nat.le_of_ble_eq_true rfl) (Nat.le_of_ble_eq_true rfl) KT2
  rw [if_neg hc1] at hd
  by_cases hc15 : (S.2.1 804 2) = 1
  · rw [if_pos hc15] at hd
    have KT16 : am_S am_Pr none 8 175 257 2570 154 (90, [some (.ref 20), some (.ref 2)], [], h0, 0, 0) (hQv q S.1 h0) := by
      refine am_steps ok_De_change 1 (x' := (91, [some (.ref 20), some (.ref 2)], [.ref 20], h0, 0, 0)) rfl (Nat.le_of_ble_eq_true rfl) (Nat.le_of_ble_eq_true rfl) ?_
      refine hr_get ok_De_change rfl hR (kd := 5) (hs_k hR (a := 20) rfl) rfl (Nat.le_of_ble_eq_true rfl) (Nat.le_of_ble_eq_true rfl) (v := .ref 10) (congrArg va_rf (hR.2.2.2.2.1 (500, 20, 10) (by decide))) (pc' := 94) rfl (Nat.le_of_ble_eq_true rfl) (Nat.le_of_ble_eq_true rfl) ?_
      obtain ⟨a17, ha18, hd19⟩ := Option.bind_eq_some_iff.mp hd; clear hd; have hd := hd19; clear hd19
      refine hr_new ok_De_change rfl hR (kd := 3) rfl (Nat.le_of_ble_eq_true rfl) (Nat.le_of_ble_eq_true rfl) (hs_al1 ha18) (hs_al2 ha18) (pc' := 97) rfl (k' := 1) rfl (n' := 4) rfl (Nat.le_of_ble_eq_true rfl) (Nat.le_of_ble_eq_true rfl) (fun h20 hR21 g22 => ?_)
      have f23 := hF.tr hF.rf g22
      have e24 := hNew_E S 3 0
      have hk25 := hs_al3 ha18 (hNew_K S 3 0)
      refine am_steps ok_De_change 2 (x' := (99, [some (.ref 20), some (.ref 2)], [.ref 2, .ref a17, .ref a17, .ref 10], h20, 1, 4)) rfl (Nat.le_of_ble_eq_true rfl) (Nat.le_of_ble_eq_true rfl) ?_
      refine hr_get ok_De_change rfl hR21 (kd := 8) (hs_k hR21 (a := 2) rfl) rfl (Nat.le_of_ble_eq_true rfl) (Nat.le_of_ble_eq_true rfl) (v := .int ((hNew S 3 0).2.1 814 2)) rfl (pc' := 102) rfl (Nat.le_of_ble_eq_true rfl) (Nat.le_of_ble_eq_true rfl) ?_
      refine am_steps ok_De_change 1 (x' := (103, [some (.ref 20), some (.ref 2)], [.ref 2, .int ((hNew S 3 0).2.1 814 2), .ref a17, .ref a17, .ref 10], h20, 1, 4)) rfl (Nat.le_of_ble_eq_true rfl) (Nat.le_of_ble_eq_true rfl) ?_
      refine hr_get ok_De_change rfl hR21 (kd := 8) (hs_k hR21 (a := 2) rfl) rfl (Nat.le_of_ble_eq_true rfl) (Nat.le_of_ble_eq_true rfl) (v := .int ((hNew S 3 0).2.1 815 2)) rfl (pc' := 106) rfl (Nat.le_of_ble_eq_true rfl) (Nat.le_of_ble_eq_true rfl) ?_
      refine am_steps ok_De_change 1 (x' := (107, [some (.ref 20), some (.ref 2)], [.ref 2, .int ((hNew S 3 0).2.1 815 2), .int ((hNew S 3 0).2.1 814 2), .ref a17, .ref a17, .ref 10], h20, 1, 4)) rfl (Nat.le_of_ble_eq_true rfl) (Nat.le_of_ble_eq_true rfl) ?_
      refine hr_get ok_De_change rfl hR21 (kd := 8) (hs_k hR21 (a := 2) rfl) rfl (Nat.le_of_ble_eq_true rfl) (Nat.le_of_ble_eq_true rfl) (v := .ref 6) (congrArg va_rf (hR21.2.2.2.2.1 (811, 2, 6) (by decide))) (pc' := 110) rfl (Nat.le_of_ble_eq_true rfl) (Nat.le_of_ble_eq_true rfl) ?_
      refine am_steps ok_De_change 1 (x' := (111, [some (.ref 20), some (.ref 2)], [.int 0, .ref 6, .int ((hNew S 3 0).2.1 815 2), .int ((hNew S 3 0).2.1 814 2), .ref a17, .ref a17, .ref 10], h20, 1, 4)) rfl (Nat.le_of_ble_eq_true rfl) (Nat.le_of_ble_eq_true rfl) ?_
      obtain ⟨j26, hx27, hd28⟩ := Option.bind_eq_some_iff.mp hd; clear hd; have hd := hd28; clear hd28
      refine hr_lald ok_De_change rfl hR21 (hs_k hR21 (a := 6) rfl) (hs_ln hR21 rfl) hx27 (pc' := 112) rfl (Nat.le_of_ble_eq_true rfl) (Nat.le_of_ble_eq_true rfl) ?_
      show am_S _ _ _ _ _ _ _ (112, [some (.ref 20), some (.ref 2)], [.long ((hNew S 3 0).2.2.2.2.2.1 6 j26), .int ((hNew S 3 0).2.1 815 2), .int ((hNew S 3 0).2.1 814 2), .ref a17, .ref a17, .ref 10], h20, 1, 4) _
      refine am_steps ok_De_change 1 (x' := (113, [some (.ref 20), some (.ref 2)], [.ref 2, .long ((hNew S 3 0).2.2.2.2.2.1 6 j26), .int ((hNew S 3 0).2.1 815 2), .int ((hNew S 3 0).2.1 814 2), .ref a17, .ref a17, .ref 10], h20, 1, 4)) rfl (Nat.le_of_ble_eq_true rfl) (Nat.le_of_ble_eq_true rfl) ?_
      refine hr_get ok_De_change rfl hR21 (kd := 8) (hs_k hR21 (a := 2) rfl) rfl (Nat.le_of_ble_eq_true rfl) (Nat.le_of_ble_eq_true rfl) (v := .int ((hNew S 3 0).2.1 816 2)) rfl (pc' := 116) rfl (Nat.le_of_ble_eq_true rfl) (Nat.le_of_ble_eq_true rfl) ?_
      obtain ⟨q29, hq30, hd31⟩ := Option.bind_eq_some_iff.mp hd; clear hd; have hd := hd31; clear hd31
      refine am_call ok_De_change hk_As_init rfl (args' := [.ref a17, .int ((hNew S 3 0).2.1 814 2), .int ((hNew S 3 0).2.1 815 2), .long ((hNew S 3 0).2.2.2.2.2.1 6 j26), .int ((hNew S 3 0).2.1 816 2)]) (rest := [.ref a17, .ref 10]) rfl (c_As_init a17 ((hNew S 3 0).2.1 814 2) ((hNew S 3 0).2.1 815 2) ((hNew S 3 0).2.2.2.2.2.1 6 j26) ((hNew S 3 0).2.1 816 2) (hNew S 3 0) h20 hR21 hk25 q29 hq30) (Nat.le_of_ble_eq_true rfl) (Nat.le_of_ble_eq_true rfl) (Nat.le_of_ble_eq_true rfl) (Nat.le_of_ble_eq_true rfl) (fun r32 h34 z33 => ?_)
      obtain ⟨rfl, hR36, g37, e38⟩ := z33
      have f39 := hF.tr f23 g37
      show am_S _ _ _ _ _ _ _ (119, [some (.ref 20), some (.ref 2)], [.ref a17, .ref 10], h34, 1, 4) _
      obtain ⟨q40, hq41, hd42⟩ := Option.bind_eq_some_iff.mp hd; clear hd; have hd := hd42; clear hd42
      refine ar_cv ok_De_change hk_Bo_addAsset rfl rfl (As := [.ref a17]) (ad := 10) (rest := []) rfl rfl (hR36.ob (hs_k hR36 (a := 10) rfl) (Nat.le_of_ble_eq_true rfl)) (Nat.le_of_ble_eq_true rfl) (c_Bo_addAsset a17 q29 h34 hR36 (hk25.up e38) q40 hq41) (Nat.le_of_ble_eq_true rfl) (Nat.le_of_ble_eq_true rfl) (Nat.le_of_ble_eq_true rfl) (Nat.le_of_ble_eq_true rfl) (pc' := 122) rfl (fun r43 h45 z44 => ?_)
      obtain ⟨rfl, hR47, g48, e49⟩ := z44
      have f50 := hF.tr f39 g48
      show am_S _ _ _ _ _ _ _ (122, [some (.ref 20), some (.ref 2)], [], h45, 1, 4) _
      refine am_steps ok_De_change 1 (x' := (358, [some (.ref 20), some (.ref 2)], [], h45, 1, 4)) rfl (Nat.le_of_ble_eq_true rfl) (Nat.le_of_ble_eq_true rfl) ?_
      cases hd; exact am_ret ok_De_change rfl (Nat.le_of_ble_eq_true rfl) (Nat.le_of_ble_eq_true rfl) ⟨rfl, hR47, f50, (((hE.rf.tr e24).tr e38).tr e49)⟩
    exact ar_tswk ok_De_change rfl hc15 (by decide +kernel) rfl rfl (Nat.le_of_ble_eq_true rfl) (Nat.le_of_ble_eq_true rfl) KT16
  rw [if_neg hc15] at hd
  by_cases hc52 : (S.2.1 804 2) = 2
  · rw [if_pos hc52] at hd
    have KT53 : am_S am_Pr none 8 175 257 2570 154 (125, [some (.ref 20), some (.ref 2)], [], h0, 0, 0) (hQv q S.1 h0) := by
      refine am_steps ok_De_change 1 (x' := (126, [some (.ref 20), some (.ref 2)], [.ref 20], h0, 0, 0)) rfl (Nat.le_of_ble_eq_true rfl) (Nat.le_of_ble_eq_true rfl) ?_
      refine hr_get ok_De_change rfl hR (kd := 5) (hs_k hR (a := 20) rfl) rfl (Nat.le_of_ble_eq_true rfl) (Nat.le_of_ble_eq_true rfl) (v := .ref 10) (congrArg va_rf (hR.2.2.2.2.1 (500, 20, 10) (by decide))) (pc' := 129) rfl (Nat.le_of_ble_eq_true rfl) (Nat.le_of_ble_eq_true rfl) ?_
      refine am_steps ok_De_change 1 (x' := (130, [some (.ref 20), some (.ref 2)], [.ref 2, .ref 10], h0, 0, 0)) rfl (Nat.le_of_ble_eq_true rfl) (Nat.le_of_ble_eq_true rfl) ?_
      refine hr_get ok_De_change rfl hR (kd := 8) (hs_k hR (a := 2) rfl) rfl (Nat.le_of_ble_eq_true rfl) (Nat.le_of_ble_eq_true rfl) (v := .ref 5) (congrArg va_rf (hR.2.2.2.2.1 (809, 2, 5) (by decide))) (pc' := 133) rfl (Nat.le_of_ble_eq_true rfl) (Nat.le_of_ble_eq_true rfl) ?_
      refine am_steps ok_De_change 1 (x' := (134, [some (.ref 20), some (.ref 2)], [.int 0, .ref 5, .ref 10], h0, 0, 0)) rfl (Nat.le_of_ble_eq_true rfl) (Nat.le_of_ble_eq_true rfl) ?_
      obtain ⟨j54, hx55, hd56⟩ := Option.bind_eq_some_iff.mp hd; clear hd; have hd := hd56; clear hd56
      refine hr_iald ok_De_change rfl hR (hs_k hR (a := 5) rfl) (hs_ln hR rfl) hx55 (pc' := 135) rfl (Nat.le_of_ble_eq_true rfl) (Nat.le_of_ble_eq_true rfl) ?_
      refine am_steps ok_De_change 1 (x' := (136, [some (.ref 20), some (.ref 2)], [.ref 2, .int (S.2.2.2.2.1 5 j54), .ref 10], h0, 0, 0)) rfl (Nat.le_of_ble_eq_true rfl) (Nat.le_of_ble_eq_true rfl) ?_
      refine hr_get ok_De_change rfl hR (kd := 8) (hs_k hR (a := 2) rfl) rfl (Nat.le_of_ble_eq_true rfl) (Nat.le_of_ble_eq_true rfl) (v := .ref 6) (congrArg va_rf (hR.2.2.2.2.1 (811, 2, 6) (by decide))) (pc' := 139) rfl (Nat.le_of_ble_eq_true rfl) (Nat.le_of_ble_eq_true rfl) ?_
      refine am_steps ok_De_change 1 (x' := (140, [some (.ref 20), some (.ref 2)], [.int 0, .ref 6, .int (S.2.2.2.2.1 5 j54), .ref 10], h0, 0, 0)) rfl (Nat.le_of_ble_eq_true rfl) (Nat.le_of_ble_eq_true rfl) ?_
      obtain ⟨j57, hx58, hd59⟩ := Option.bind_eq_some_iff.mp hd; clear hd; have hd := hd59; clear hd59
      refine hr_lald ok_De_change rfl hR (hs_k hR (a := 6) rfl) (hs_ln hR rfl) hx58 (pc' := 141) rfl (Nat.le_of_ble_eq_true rfl) (Nat.le_of_ble_eq_true rfl) ?_
      refine am_steps ok_De_change 1 (x' := (142, [some (.ref 20), some (.ref 2)], [.ref 2, .long (S.2.2.2.2.2.1 6 j57), .int (S.2.2.2.2.1 5 j54), .ref 10], h0, 0, 0)) rfl (Nat.le_of_ble_eq_true rfl) (Nat.le_of_ble_eq_true rfl) ?_
      refine hr_get ok_De_change rfl hR (kd := 8) (hs_k hR (a := 2) rfl) rfl (Nat.le_of_ble_eq_true rfl) (Nat.le_of_ble_eq_true rfl) (v := .int (S.2.1 816 2)) rfl (pc' := 145) rfl (Nat.le_of_ble_eq_true rfl) (Nat.le_of_ble_eq_true rfl) ?_
      obtain ⟨q60, hq61, hd62⟩ := Option.bind_eq_some_iff.mp hd; clear hd; have hd := hd62; clear hd62
      refine ar_cv ok_De_change hk_Bo_setPrice rfl rfl (As := [.int (S.2.2.2.2.1 5 j54), .long (S.2.2.2.2.2.1 6 j57), .int (S.2.1 816 2)]) (ad := 10) (rest := []) rfl rfl (hR.ob (hs_k hR (a := 10) rfl) (Nat.le_of_ble_eq_true rfl)) (Nat.le_of_ble_eq_true rfl) (c_Bo_setPrice (S.2.2.2.2.1 5 j54) (S.2.2.2.2.2.1 6 j57) (S.2.1 816 2) S h0 hR  q60 hq61) (Nat.le_of_ble_eq_true rfl) (Nat.le_of_ble_eq_true rfl) (Nat.le_of_ble_eq_true rfl) (Nat.le_of_ble_eq_true rfl) (pc' := 148) rfl (fun r63 h65 z64 => ?_)
      obtain ⟨rfl, hR67, g68, e69⟩ := z64
      have f70 := hF.tr hF.rf g68
      show am_S _ _ _ _ _ _ _ (148, [some (.ref 20), some (.ref 2)], [], h65, 257, 2570) _
      refine am_steps ok_De_change 1 (x' := (358, [some (.ref 20), some (.ref 2)], [], h65, 257, 2570)) rfl (Nat.le_of_ble_eq_true rfl) (Nat.le_of_ble_eq_true rfl) ?_
      cases hd; exact am_ret ok_De_change rfl (Nat.le_of_ble_eq_true rfl) (Nat.le_of_ble_eq_true rfl) ⟨rfl, hR67, f70, (hE.rf.tr e69)⟩
    exact ar_tswk ok_De_change rfl hc52 (by decide +kernel) rfl rfl (Nat.le_of_ble_eq_true rfl) (Nat.le_of_ble_eq_true rfl) KT53
  rw [if_neg hc52] at hd
  by_cases hc72 : (S.2.1 804 2) = 3
  · rw [if_pos hc72] at hd
    have KT73 : am_S am_Pr none 8 175 257 2570 154 (151, [some (.ref 20), some (.ref 2)], [], h0, 0, 0) (hQv q S.1 h0) := by
      refine am_steps ok_De_change 1 (x' := (152, [some (.ref 20), some (.ref 2)], [.ref 20], h0, 0, 0)) rfl (Nat.le_of_ble_eq_true rfl) (Nat.le_of_ble_eq_true rfl) ?_
      refine hr_get ok_De_change rfl hR (kd := 5) (hs_k hR (a := 20) rfl) rfl (Nat.le_of_ble_eq_true rfl) (Nat.le_of_ble_eq_true rfl) (v := .ref 10) (congrArg va_rf (hR.2.2.2.2.1 (500, 20, 10) (by decide))) (pc' := 155) rfl (Nat.le_of_ble_eq_true rfl) (Nat.le_of_ble_eq_true rfl) ?_
      refine am_steps ok_De_change 1 (x' := (156, [some (.ref 20), some (.ref 2)], [.ref 2, .ref 10], h0, 0, 0)) rfl (Nat.le_of_ble_eq_true rfl) (Nat.le_of_ble_eq_true rfl) ?_
      refine hr_get ok_De_change rfl hR (kd := 8) (hs_k hR (a := 2) rfl) rfl (Nat.le_of_ble_eq_true rfl) (Nat.le_of_ble_eq_true rfl) (v := .ref 5) (congrArg va_rf (hR.2.2.2.2.1 (809, 2, 5) (by decide))) (pc' := 159) rfl (Nat.le_of_ble_eq_true rfl) (Nat.le_of_ble_eq_true rfl) ?_
      refine am_steps ok_De_change 1 (x' := (160, [some (.ref 20), some (.ref 2)], [.int 0, .ref 5, .ref 10], h0, 0, 0)) rfl (Nat.le_of_ble_eq_true rfl) (Nat.le_of_ble_eq_true rfl) ?_
      obtain ⟨j74, hx75, hd76⟩ := Option.bind_eq_some_iff.mp hd; clear hd; have hd := hd76; clear hd76
      refine hr_iald ok_De_change rfl hR (hs_k hR (a := 5) rfl) (hs_ln hR rfl) hx75 (pc' := 161) rfl (Nat.le_of_ble_eq_true rfl) (Nat.le_of_ble_eq_true rfl) ?_
      refine am_steps ok_De_change 1 (x' := (162, [some (.ref 20), some (.ref 2)], [.ref 2, .int (S.2.2.2.2.1 5 j74), .ref 10], h0, 0, 0)) rfl (Nat.le_of_ble_eq_true rfl) (Nat.le_of_ble_eq_true rfl) ?_
      refine hr_get ok_De_change rfl hR (kd := 8) (hs_k hR (a := 2) rfl) rfl (Nat.le_of_ble_eq_true rfl) (Nat.le_of_ble_eq_true rfl) (v := .ref 5) (congrArg va_rf (hR.2.2.2.2.1 (809, 2, 5) (by decide))) (pc' := 165) rfl (Nat.le_of_ble_eq_true rfl) (Nat.le_of_ble_eq_true rfl) ?_
      refine am_steps ok_De_change 1 (x' := (166, [some (.ref 20), some (.ref 2)], [.int 1, .ref 5, .int (S.2.2.2.2.1 5 j74), .ref 10], h0, 0, 0)) rfl (Nat.le_of_ble_eq_true rfl) (Nat.le_of_ble_eq_true rfl) ?_
      obtain ⟨j77, hx78, hd79⟩ := Option.bind_eq_some_iff.mp hd; clear hd; have hd := hd79; clear hd79
      refine hr_iald ok_De_change rfl hR (hs_k hR (a := 5) rfl) (hs_ln hR rfl) hx78 (pc' := 167) rfl (Nat.le_of_ble_eq_true rfl) (Nat.le_of_ble_eq_true rfl) ?_
      refine am_steps ok_De_change 1 (x' := (168, [some (.ref 20), some (.ref 2)], [.ref 2, .int (S.2.2.2.2.1 5 j77), .int (S.2.2.2.2.1 5 j74), .ref 10], h0, 0, 0)) rfl (Nat.le_of_ble_eq_true rfl) (Nat.le_of_ble_eq_true rfl) ?_
      refine hr_get ok_De_change rfl hR (kd := 8) (hs_k hR (a := 2) rfl) rfl (Nat.le_of_ble_eq_true rfl) (Nat.le_of_ble_eq_true rfl) (v := .ref 6) (congrArg va_rf (hR.2.2.2.2.1 (811, 2, 6) (by decide))) (pc' := 171) rfl (Nat.le_of_ble_eq_true rfl) (Nat.le_of_ble_eq_true rfl) ?_
      refine am_steps ok_De_change 1 (x' := (172, [some (.ref 20), some (.ref 2)], [.int 0, .ref 6, .int (S.2.2.2.2.1 5 j77), .int (S.2.2.2.2.1 5 j74), .ref 10], h0, 0, 0)) rfl (Nat.le_of_ble_eq_true rfl) (Nat.le_of_ble_eq_true rfl) ?_
      obtain ⟨j80, hx81, hd82⟩ := Option.bind_eq_some_iff.mp hd; clear hd; have hd := hd82; clear hd82
      refine hr_lald ok_De_change rfl hR (hs_k hR (a := 6) rfl) (hs_ln hR rfl) hx81 (pc' := 173) rfl (Nat.le_of_ble_eq_true rfl) (Nat.le_of_ble_eq_true rfl) ?_
      obtain ⟨q83, hq84, hd85⟩ := Option.bind_eq_some_iff.mp hd; clear hd; have hd := hd85; clear hd85
      refine ar_cv ok_De_change hk_Bo_give rfl rfl (As := [.int (S.2.2.2.2.1 5 j74), .int (S.2.2.2.2.1 5 j77), .long (S.2.2.2.2.2.1 6 j80)]) (ad := 10) (rest := []) rfl rfl (hR.ob (hs_k hR (a := 10) rfl) (Nat.le_of_ble_eq_true rfl)) (Nat.le_of_ble_eq_true rfl) (c_Bo_give (S.2.2.2.2.1 5 j74) (S.2.2.2.2.1 5 j77) (S.2.2.2.2.2.1 6 j80) S h0 hR  q83 hq84) (Nat.le_of_ble_eq_true rfl) (Nat.le_of_ble_eq_true rfl) (Nat.le_of_ble_eq_true rfl) (Nat.le_of_ble_eq_true rfl) (pc' := 176) rfl (fun r86 h88 z87 => ?_)
      obtain ⟨rfl, hR90, g91, e92⟩ := z87
      have f93 := hF.tr hF.rf g91
      show am_S _ _ _ _ _ _ _ (176, [some (.ref 20), some (.ref 2)], [], h88, 2, 20) _
      refine am_steps ok_De_change 1 (x' := (358, [some (.ref 20), some (.ref 2)], [], h88, 2, 20)) rfl (Nat.le_of_ble_eq_true rfl) (Nat.le_of_ble_eq_true rfl) ?_
      cases hd; exact am_ret ok_De_change rfl (Nat.le_of_ble_eq_true rfl) (Nat.le_of_ble_eq_true rfl) ⟨rfl, hR90, f93, (hE.rf.tr e92)⟩
    exact ar_tswk ok_De_change rfl hc72 (by decide +kernel) rfl rfl (Nat.le_of_ble_eq_true rfl) (Nat.le_of_ble_eq_true rfl) KT73
  rw [if_neg hc72] at hd
  by_cases hc95 : (S.2.1 804 2) = 4
  · rw [if_pos hc95] at hd
    have KT96 : am_S am_Pr none 8 175 257 2570 154 (179, [some (.ref 20), some (.ref 2)], [], h0, 0, 0) (hQv q S.1 h0) := by
      refine am_steps ok_De_change 1 (x' := (180, [some (.ref 20), some (.ref 2)], [.ref 20], h0, 0, 0)) rfl (Nat.le_of_ble_eq_true rfl) (Nat.le_of_ble_eq_true rfl) ?_
      refine hr_get ok_De_change rfl hR (kd := 5) (hs_k hR (a := 20) rfl) rfl (Nat.le_of_ble_eq_true rfl) (Nat.le_of_ble_eq_true rfl) (v := .ref 10) (congrArg va_rf (hR.2.2.2.2.1 (500, 20, 10) (by decide))) (pc' := 183) rfl (Nat.le_of_ble_eq_true rfl) (Nat.le_of_ble_eq_true rfl) ?_
      refine am_steps ok_De_change 1 (x' := (184, [some (.ref 20), some (.ref 2)], [.ref 2, .ref 10], h0, 0, 0)) rfl (Nat.le_of_ble_eq_true rfl) (Nat.le_of_ble_eq_true rfl) ?_
      refine hr_get ok_De_change rfl hR (kd := 8) (hs_k hR (a := 2) rfl) rfl (Nat.le_of_ble_eq_true rfl) (Nat.le_of_ble_eq_true rfl) (v := .ref 5) (congrArg va_rf (hR.2.2.2.2.1 (809, 2, 5) (by decide))) (pc' := 187) rfl (Nat.le_of_ble_eq_true rfl) (Nat.le_of_ble_eq_true rfl) ?_
      refine am_steps ok_De_change 1 (x' := (188, [some (.ref 20), some (.ref 2)], [.int 0, .ref 5, .ref 10], h0, 0, 0)) rfl (Nat.le_of_ble_eq_true rfl) (Nat.le_of_ble_eq_true rfl) ?_
      obtain ⟨j97, hx98, hd99⟩ := Option.bind_eq_some_iff.mp hd; clear hd; have hd := hd99; clear hd99
      refine hr_iald ok_De_change rfl hR (hs_k hR (a := 5) rfl) (hs_ln hR rfl) hx98 (pc' := 189) rfl (Nat.le_of_ble_eq_true rfl) (Nat.le_of_ble_eq_true rfl) ?_
      refine am_steps ok_De_change 1 (x' := (190, [some (.ref 20), some (.ref 2)], [.ref 2, .int (S.2.2.2.2.1 5 j97), .ref 10], h0, 0, 0)) rfl (Nat.le_of_ble_eq_true rfl) (Nat.le_of_ble_eq_true rfl) ?_
      refine hr_get ok_De_change rfl hR (kd := 8) (hs_k hR (a := 2) rfl) rfl (Nat.le_of_ble_eq_true rfl) (Nat.le_of_ble_eq_true rfl) (v := .ref 5) (congrArg va_rf (hR.2.2.2.2.1 (809, 2, 5) (by decide))) (pc' := 193) rfl (Nat.le_of_ble_eq_true rfl) (Nat.le_of_ble_eq_true rfl) ?_
      refine am_steps ok_De_change 1 (x' := (194, [some (.ref 20), some (.ref 2)], [.int 1, .ref 5, .int (S.2.2.2.2.1 5 j97), .ref 10], h0, 0, 0)) rfl (Nat.le_of_ble_eq_true rfl) (Nat.le_of_ble_eq_true rfl) ?_
      obtain ⟨j100, hx101, hd102⟩ := Option.bind_eq_some_iff.mp hd; clear hd; have hd := hd102; clear hd102
      refine hr_iald ok_De_change rfl hR (hs_k hR (a := 5) rfl) (hs_ln hR rfl) hx101 (pc' := 195) rfl (Nat.le_of_ble_eq_true rfl) (Nat.le_of_ble_eq_true rfl) ?_
      refine am_steps ok_De_change 1 (x' := (196, [some (.ref 20), some (.ref 2)], [.ref 2, .int (S.2.2.2.2.1 5 j100), .int (S.2.2.2.2.1 5 j97), .ref 10], h0, 0, 0)) rfl (Nat.le_of_ble_eq_true rfl) (Nat.le_of_ble_eq_true rfl) ?_
      refine hr_get ok_De_change rfl hR (kd := 8) (hs_k hR (a := 2) rfl) rfl (Nat.le_of_ble_eq_true rfl) (Nat.le_of_ble_eq_true rfl) (v := .ref 6) (congrArg va_rf (hR.2.2.2.2.1 (811, 2, 6) (by decide))) (pc' := 199) rfl (Nat.le_of_ble_eq_true rfl) (Nat.le_of_ble_eq_true rfl) ?_
      refine am_steps ok_De_change 1 (x' := (200, [some (.ref 20), some (.ref 2)], [.int 0, .ref 6, .int (S.2.2.2.2.1 5 j100), .int (S.2.2.2.2.1 5 j97), .ref 10], h0, 0, 0)) rfl (Nat.le_of_ble_eq_true rfl) (Nat.le_of_ble_eq_true rfl) ?_
      obtain ⟨j103, hx104, hd105⟩ := Option.bind_eq_some_iff.mp hd; clear hd; have hd := hd105; clear hd105
      refine hr_lald ok_De_change rfl hR (hs_k hR (a := 6) rfl) (hs_ln hR rfl) hx104 (pc' := 201) rfl (Nat.le_of_ble_eq_true rfl) (Nat.le_of_ble_eq_true rfl) ?_
      refine am_steps ok_De_change 1 (x' := (202, [some (.ref 20), some (.ref 2)], [.long (-(S.2.2.2.2.2.1 6 j103)), .int (S.2.2.2.2.1 5 j100), .int (S.2.2.2.2.1 5 j97), .ref 10], h0, 0, 0)) rfl (Nat.le_of_ble_eq_true rfl) (Nat.le_of_ble_eq_true rfl) ?_
      obtain ⟨q106, hq107, hd108⟩ := Option.bind_eq_some_iff.mp hd; clear hd; have hd := hd108; clear hd108
      refine ar_cv ok_De_change hk_Bo_give rfl rfl (As := [.int (S.2.2.2.2.1 5 j97), .int (S.2.2.2.2.1 5 j100), .long (-(S.2.2.2.2.2.1 6 j103))]) (ad := 10) (rest := []) rfl rfl (hR.ob (hs_k hR (a := 10) rfl) (Nat.le_of_ble_eq_true rfl)) (Nat.le_of_ble_eq_true rfl) (c_Bo_give (S.2.2.2.2.1 5 j97) (S.2.2.2.2.1 5 j100) (-(S.2.2.2.2.2.1 6 j103)) S h0 hR  q106 hq107) (Nat.le_of_ble_eq_true rfl) (Nat.le_of_ble_eq_true rfl) (Nat.le_of_ble_eq_true rfl) (Nat.le_of_ble_eq_true rfl) (pc' := 205) rfl (fun r109 h111 z110 => ?_)
      obtain ⟨rfl, hR113, g114, e115⟩ := z110
      have f116 := hF.tr hF.rf g114
      show am_S _ _ _ _ _ _ _ (205, [some (.ref 20), some (.ref 2)], [], h111, 2, 20) _
      refine am_steps ok_De_change 1 (x' := (358, [some (.ref 20), some (.ref 2)], [], h111, 2, 20)) rfl (Nat.le_of_ble_eq_true rfl) (Nat.le_of_ble_eq_true rfl) ?_
      cases hd; exact am_ret ok_De_change rfl (Nat.le_of_ble_eq_true rfl) (Nat.le_of_ble_eq_true rfl) ⟨rfl, hR113, f116, (hE.rf.tr e115)⟩
    exact ar_tswk ok_De_change rfl hc95 (by decide +kernel) rfl rfl (Nat.le_of_ble_eq_true rfl) (Nat.le_of_ble_eq_true rfl) KT96
  rw [if_neg hc95] at hd
  by_cases hc118 : (S.2.1 804 2) = 7
  · rw [if_pos hc118] at hd
    have KT119 : am_S am_Pr none 8 175 257 2570 154 (208, [some (.ref 20), some (.ref 2)], [], h0, 0, 0) (hQv q S.1 h0) := by
      refine am_steps ok_De_change 1 (x' := (209, [some (.ref 20), some (.ref 2)], [.ref 20], h0, 0, 0)) rfl (Nat.le_of_ble_eq_true rfl) (Nat.le_of_ble_eq_true rfl) ?_
      refine hr_get ok_De_change rfl hR (kd := 5) (hs_k hR (a := 20) rfl) rfl (Nat.le_of_ble_eq_true rfl) (Nat.le_of_ble_eq_true rfl) (v := .ref 16) (congrArg va_rf (hR.2.2.2.2.1 (501, 20, 16) (by decide))) (pc' := 212) rfl (Nat.le_of_ble_eq_true rfl) (Nat.le_of_ble_eq_true rfl) ?_
      refine am_steps ok_De_change 1 (x' := (213, [some (.ref 20), some (.ref 2)], [.ref 20, .ref 16], h0, 0, 0)) rfl (Nat.le_of_ble_eq_true rfl) (Nat.le_of_ble_eq_true rfl) ?_
      refine hr_get ok_De_change rfl hR (kd := 5) (hs_k hR (a := 20) rfl) rfl (Nat.le_of_ble_eq_true rfl) (Nat.le_of_ble_eq_true rfl) (v := .ref 16) (congrArg va_rf (hR.2.2.2.2.1 (501, 20, 16) (by decide))) (pc' := 216) rfl (Nat.le_of_ble_eq_true rfl) (Nat.le_of_ble_eq_true rfl) ?_
      refine am_steps ok_De_change 1 (x' := (217, [some (.ref 20), some (.ref 2)], [.ref 2, .ref 16, .ref 16], h0, 0, 0)) rfl (Nat.le_of_ble_eq_true rfl) (Nat.le_of_ble_eq_true rfl) ?_
      refine hr_get ok_De_change rfl hR (kd := 8) (hs_k hR (a := 2) rfl) rfl (Nat.le_of_ble_eq_true rfl) (Nat.le_of_ble_eq_true rfl) (v := .int (S.2.1 813 2)) rfl (pc' := 220) rfl (Nat.le_of_ble_eq_true rfl) (Nat.le_of_ble_eq_true rfl) ?_
      refine am_steps ok_De_change 1 (x' := (221, [some (.ref 20), some (.ref 2)], [.ref 2, .int (S.2.1 813 2), .ref 16, .ref 16], h0, 0, 0)) rfl (Nat.le_of_ble_eq_true rfl) (Nat.le_of_ble_eq_true rfl) ?_
      refine hr_get ok_De_change rfl hR (kd := 8) (hs_k hR (a := 2) rfl) rfl (Nat.le_of_ble_eq_true rfl) (Nat.le_of_ble_eq_true rfl) (v := .long (S.2.2.1 818 2)) rfl (pc' := 224) rfl (Nat.le_of_ble_eq_true rfl) (Nat.le_of_ble_eq_true rfl) ?_
      obtain ⟨q120, hq121, hd122⟩ := Option.bind_eq_some_iff.mp hd; clear hd; have hd := hd122; clear hd122
      refine ar_cv ok_De_change hk_Qu_find rfl rfl (As := [.int (S.2.1 813 2), .long (S.2.2.1 818 2)]) (ad := 16) (rest := [.ref 16]) rfl rfl (hR.ob (hs_k hR (a := 16) rfl) (Nat.le_of_ble_eq_true rfl)) (Nat.le_of_ble_eq_true rfl) (c_Qu_find (S.2.1 813 2) (S.2.2.1 818 2) S h0 hR  q120 hq121) (Nat.le_of_ble_eq_true rfl) (Nat.le_of_ble_eq_true rfl) (Nat.le_of_ble_eq_true rfl) (Nat.le_of_ble_eq_true rfl) (pc' := 227) rfl (fun r123 h125 z124 => ?_)
      obtain ⟨rfl, z127, hk126⟩ := z124; rw [z127]
      show am_S _ _ _ _ _ _ _ (227, [some (.ref 20), some (.ref 2)], [va_rf q120, .ref 16], h0, 0, 0) _
      obtain ⟨q128, hq129, hd130⟩ := Option.bind_eq_some_iff.mp hd; clear hd; have hd := hd130; clear hd130
      refine ar_cv ok_De_change hk_Qu_leave rfl rfl (As := [va_rf q120]) (ad := 16) (rest := []) rfl rfl (hR.ob (hs_k hR (a := 16) rfl) (Nat.le_of_ble_eq_true rfl)) (Nat.le_of_ble_eq_true rfl) (c_Qu_leave q120 S h0 hR hk126 q128 hq129) (Nat.le_of_ble_eq_true rfl) (Nat.le_of_ble_eq_true rfl) (Nat.le_of_ble_eq_true rfl) (Nat.le_of_ble_eq_true rfl) (pc' := 230) rfl (fun r131 h133 z132 => ?_)
      obtain ⟨rfl, hR135, g136, e137⟩ := z132
      have f138 := hF.tr hF.rf g136
      show am_S _ _ _ _ _ _ _ (230, [some (.ref 20), some (.ref 2)], [], h133, 0, 0) _
      refine am_steps ok_De_change 1 (x' := (358, [some (.ref 20), some (.ref 2)], [], h133, 0, 0)) rfl (Nat.le_of_ble_eq_true rfl) (Nat.le_of_ble_eq_true rfl) ?_
      cases hd; exact am_ret ok_De_change rfl (Nat.le_of_ble_eq_true rfl) (Nat.le_of_ble_eq_true rfl) ⟨rfl, hR135, f138, (hE.rf.tr e137)⟩
    exact ar_tswk ok_De_change rfl hc118 (by decide +kernel) rfl rfl (Nat.le_of_ble_eq_true rfl) (Nat.le_of_ble_eq_true rfl) KT119
  rw [if_neg hc118] at hd
  by_cases hc140 : (S.2.1 804 2) = 8
  · rw [if_pos hc140] at hd
    have KT141 : am_S am_Pr none 8 175 257 2570 154 (233, [some (.ref 20), some (.ref 2)], [], h0, 0, 0) (hQv q S.1 h0) := by
      refine am_steps ok_De_change 2 (x' := (235, [some (.ref 20), some (.ref 2)], [.ref 20, .ref 20], h0, 0, 0)) rfl (Nat.le_of_ble_eq_true rfl) (Nat.le_of_ble_eq_true rfl) ?_
      refine hr_get ok_De_change rfl hR (kd := 5) (hs_k hR (a := 20) rfl) rfl (Nat.le_of_ble_eq_true rfl) (Nat.le_of_ble_eq_true rfl) (v := .ref 16) (congrArg va_rf (hR.2.2.2.2.1 (501, 20, 16) (by decide))) (pc' := 238) rfl (Nat.le_of_ble_eq_true rfl) (Nat.le_of_ble_eq_true rfl) ?_
      refine am_steps ok_De_change 1 (x' := (239, [some (.ref 20), some (.ref 2)], [.ref 2, .ref 16, .ref 20], h0, 0, 0)) rfl (Nat.le_of_ble_eq_true rfl) (Nat.le_of_ble_eq_true rfl) ?_
      refine hr_get ok_De_change rfl hR (kd := 8) (hs_k hR (a := 2) rfl) rfl (Nat.le_of_ble_eq_true rfl) (Nat.le_of_ble_eq_true rfl) (v := .int (S.2.1 813 2)) rfl (pc' := 242) rfl (Nat.le_of_ble_eq_true rfl) (Nat.le_of_ble_eq_true rfl) ?_
      refine am_steps ok_De_change 1 (x' := (243, [some (.ref 20), some (.ref 2)], [.ref 2, .int (S.2.1 813 2), .ref 16, .ref 20], h0, 0, 0)) rfl (Nat.le_of_ble_eq_true rfl) (Nat.le_of_ble_eq_true rfl) ?_
      refine hr_get ok_De_change rfl hR (kd := 8) (hs_k hR (a := 2) rfl) rfl (Nat.le_of_ble_eq_true rfl) (Nat.le_of_ble_eq_true rfl) (v := .long (S.2.2.1 818 2)) rfl (pc' := 246) rfl (Nat.le_of_ble_eq_true rfl) (Nat.le_of_ble_eq_true rfl) ?_
      obtain ⟨q142, hq143, hd144⟩ := Option.bind_eq_some_iff.mp hd; clear hd; have hd := hd144; clear hd144
      refine ar_cv ok_De_change hk_Qu_find rfl rfl (As := [.int (S.2.1 813 2), .long (S.2.2.1 818 2)]) (ad := 16) (rest := [.ref 20]) rfl rfl (hR.ob (hs_k hR (a := 16) rfl) (Nat.le_of_ble_eq_true rfl)) (Nat.le_of_ble_eq_true rfl) (c_Qu_find (S.2.1 813 2) (S.2.2.1 818 2) S h0 hR  q142 hq143) (Nat.le_of_ble_eq_true rfl) (Nat.le_of_ble_eq_true rfl) (Nat.le_of_ble_eq_true rfl) (Nat.le_of_ble_eq_true rfl) (pc' := 249) rfl (fun r145 h147 z146 => ?_)
      obtain ⟨rfl, z149, hk148⟩ := z146; rw [z149]
      show am_S _ _ _ _ _ _ _ (249, [some (.ref 20), some (.ref 2)], [va_rf q142, .ref 20], h0, 0, 0) _
      refine am_steps ok_De_change 1 (x' := (250, [some (.ref 20), some (.ref 2)], [.ref 2, va_rf q142, .ref 20], h0, 0, 0)) rfl (Nat.le_of_ble_eq_true rfl) (Nat.le_of_ble_eq_true rfl) ?_
      refine hr_get ok_De_change rfl hR (kd := 8) (hs_k hR (a := 2) rfl) rfl (Nat.le_of_ble_eq_true rfl) (Nat.le_of_ble_eq_true rfl) (v := .int (S.2.1 817 2)) rfl (pc' := 253) rfl (Nat.le_of_ble_eq_true rfl) (Nat.le_of_ble_eq_true rfl) ?_
      obtain ⟨q150, hq151, hd152⟩ := Option.bind_eq_some_iff.mp hd; clear hd; have hd := hd152; clear hd152
      refine ar_cv ok_De_change hk_De_putBehind rfl rfl (As := [va_rf q142, .int (S.2.1 817 2)]) (ad := 20) (rest := []) rfl rfl (hR.ob (hs_k hR (a := 20) rfl) (Nat.le_of_ble_eq_true rfl)) (Nat.le_of_ble_eq_true rfl) (c_De_putBehind q142 (S.2.1 817 2) S h0 hR hk148 q150 hq151) (Nat.le_of_ble_eq_true rfl) (Nat.le_of_ble_eq_true rfl) (Nat.le_of_ble_eq_true rfl) (Nat.le_of_ble_eq_true rfl) (pc' := 256) rfl (fun r153 h155 z154 => ?_)
      obtain ⟨rfl, hR157, g158, e159⟩ := z154
      have f160 := hF.tr hF.rf g158
      show am_S _ _ _ _ _ _ _ (256, [some (.ref 20), some (.ref 2)], [], h155, 0, 0) _
      refine am_steps ok_De_change 1 (x' := (358, [some (.ref 20), some (.ref 2)], [], h155, 0, 0)) rfl (Nat.le_of_ble_eq_true rfl) (Nat.le_of_ble_eq_true rfl) ?_
      cases hd; exact am_ret ok_De_change rfl (Nat.le_of_ble_eq_true rfl) (Nat.le_of_ble_eq_true rfl) ⟨rfl, hR157, f160, (hE.rf.tr e159)⟩
    exact ar_tswk ok_De_change rfl hc140 (by decide +kernel) rfl rfl (Nat.le_of_ble_eq_true rfl) (Nat.le_of_ble_eq_true rfl) KT141
  rw [if_neg hc140] at hd
  by_cases hc162 : (S.2.1 804 2) = 9
  · rw [if_pos hc162] at hd
    have KT163 : am_S am_Pr none 8 175 257 2570 154 (259, [some (.ref 20), some (.ref 2)], [], h0, 0, 0) (hQv q S.1 h0) := by
      refine am_steps ok_De_change 1 (x' := (260, [some (.ref 20), some (.ref 2)], [.ref 20], h0, 0, 0)) rfl (Nat.le_of_ble_eq_true rfl) (Nat.le_of_ble_eq_true rfl) ?_
      refine hr_get ok_De_change rfl hR (kd := 5) (hs_k hR (a := 20) rfl) rfl (Nat.le_of_ble_eq_true rfl) (Nat.le_of_ble_eq_true rfl) (v := .ref 10) (congrArg va_rf (hR.2.2.2.2.1 (500, 20, 10) (by decide))) (pc' := 263) rfl (Nat.le_of_ble_eq_true rfl) (Nat.le_of_ble_eq_true rfl) ?_
      refine am_steps ok_De_change 1 (x' := (264, [some (.ref 20), some (.ref 2)], [.ref 20, .ref 10], h0, 0, 0)) rfl (Nat.le_of_ble_eq_true rfl) (Nat.le_of_ble_eq_true rfl) ?_
      refine hr_get ok_De_change rfl hR (kd := 5) (hs_k hR (a := 20) rfl) rfl (Nat.le_of_ble_eq_true rfl) (Nat.le_of_ble_eq_true rfl) (v := .ref 10) (congrArg va_rf (hR.2.2.2.2.1 (500, 20, 10) (by decide))) (pc' := 267) rfl (Nat.le_of_ble_eq_true rfl) (Nat.le_of_ble_eq_true rfl) ?_
      refine am_steps ok_De_change 1 (x' := (268, [some (.ref 20), some (.ref 2)], [.ref 2, .ref 10, .ref 10], h0, 0, 0)) rfl (Nat.le_of_ble_eq_true rfl) (Nat.le_of_ble_eq_true rfl) ?_
      refine hr_get ok_De_change rfl hR (kd := 8) (hs_k hR (a := 2) rfl) rfl (Nat.le_of_ble_eq_true rfl) (Nat.le_of_ble_eq_true rfl) (v := .int (S.2.1 813 2)) rfl (pc' := 271) rfl (Nat.le_of_ble_eq_true rfl) (Nat.le_of_ble_eq_true rfl) ?_
      refine am_steps ok_De_change 1 (x' := (272, [some (.ref 20), some (.ref 2)], [.ref 2, .int (S.2.1 813 2), .ref 10, .ref 10], h0, 0, 0)) rfl (Nat.le_of_ble_eq_true rfl) (Nat.le_of_ble_eq_true rfl) ?_
      refine hr_get ok_De_change rfl hR (kd := 8) (hs_k hR (a := 2) rfl) rfl (Nat.le_of_ble_eq_true rfl) (Nat.le_of_ble_eq_true rfl) (v := .ref 5) (congrArg va_rf (hR.2.2.2.2.1 (809, 2, 5) (by decide))) (pc' := 275) rfl (Nat.le_of_ble_eq_true rfl) (Nat.le_of_ble_eq_true rfl) ?_
      refine am_steps ok_De_change 1 (x' := (276, [some (.ref 20), some (.ref 2)], [.int 0, .ref 5, .int (S.2.1 813 2), .ref 10, .ref 10], h0, 0, 0)) rfl (Nat.le_of_ble_eq_true rfl) (Nat.le_of_ble_eq_true rfl) ?_
      obtain ⟨j164, hx165, hd166⟩ := Option.bind_eq_some_iff.mp hd; clear hd; have hd := hd166; clear hd166
      refine hr_iald ok_De_change rfl hR (hs_k hR (a := 5) rfl) (hs_ln hR rfl) hx165 (pc' := 277) rfl (Nat.le_of_ble_eq_true rfl) (Nat.le_of_ble_eq_true rfl) ?_
      obtain ⟨q167, hq168, hd169⟩ := Option.bind_eq_some_iff.mp hd; clear hd; have hd := hd169; clear hd169
      refine ar_cv ok_De_change hk_Bo_room rfl rfl (As := [.int (S.2.1 813 2), .int (S.2.2.2.2.1 5 j164)]) (ad := 10) (rest := [.ref 10]) rfl rfl (hR.ob (hs_k hR (a := 10) rfl) (Nat.le_of_ble_eq_true rfl)) (Nat.le_of_ble_eq_true rfl) (c_Bo_room (S.2.1 813 2) (S.2.2.2.2.1 5 j164) S h0 hR  q167 hq168) (Nat.le_of_ble_eq_true rfl) (Nat.le_of_ble_eq_true rfl) (Nat.le_of_ble_eq_true rfl) (Nat.le_of_ble_eq_true rfl) (pc' := 280) rfl (fun r170 h172 z171 => ?_)
      obtain ⟨rfl, hk173, hR174, g175, e176⟩ := z171
      have f177 := hF.tr hF.rf g175
      show am_S _ _ _ _ _ _ _ (280, [some (.ref 20), some (.ref 2)], [.ref q167.1, .ref 10], h172, 2, 410) _
      refine am_steps ok_De_change 1 (x' := (281, [some (.ref 20), some (.ref 2)], [.ref 2, .ref q167.1, .ref 10], h172, 2, 410)) rfl (Nat.le_of_ble_eq_true rfl) (Nat.le_of_ble_eq_true rfl) ?_
      refine hr_get ok_De_change rfl hR174 (kd := 8) (hs_k hR174 (a := 2) rfl) rfl (Nat.le_of_ble_eq_true rfl) (Nat.le_of_ble_eq_true rfl) (v := .ref 6) (congrArg va_rf (hR174.2.2.2.2.1 (811, 2, 6) (by decide))) (pc' := 284) rfl (Nat.le_of_ble_eq_true rfl) (Nat.le_of_ble_eq_true rfl) ?_
      refine am_steps ok_De_change 1 (x' := (285, [some (.ref 20), some (.ref 2)], [.int 0, .ref 6, .ref q167.1, .ref 10], h172, 2, 410)) rfl (Nat.le_of_ble_eq_true rfl) (Nat.le_of_ble_eq_true rfl) ?_
      obtain ⟨j178, hx179, hd180⟩ := Option.bind_eq_some_iff.mp hd; clear hd; have hd := hd180; clear hd180
      refine hr_lald ok_De_change rfl hR174 (hs_k hR174 (a := 6) rfl) (hs_ln hR174 rfl) hx179 (pc' := 286) rfl (Nat.le_of_ble_eq_true rfl) (Nat.le_of_ble_eq_true rfl) ?_
      obtain ⟨q181, hq182, hd183⟩ := Option.bind_eq_some_iff.mp hd; clear hd; have hd := hd183; clear hd183
      refine ar_cv ok_De_change hk_Bo_setLimit rfl rfl (As := [.ref q167.1, .long (q167.2.2.2.2.2.2.1 6 j178)]) (ad := 10) (rest := []) rfl rfl (hR174.ob (hs_k hR174 (a := 10) rfl) (Nat.le_of_ble_eq_true rfl)) (Nat.le_of_ble_eq_true rfl) (c_Bo_setLimit q167.1 (q167.2.2.2.2.2.2.1 6 j178) q167.2 h172 hR174 (hk173 _ rfl) q181 hq182) (Nat.le_of_ble_eq_true rfl) (Nat.le_of_ble_eq_true rfl) (Nat.le_of_ble_eq_true rfl) (Nat.le_of_ble_eq_true rfl) (pc' := 289) rfl (fun r184 h186 z185 => ?_)
      obtain ⟨rfl, hR188, g189, e190⟩ := z185
      have f191 := hF.tr f177 g189
      show am_S _ _ _ _ _ _ _ (289, [some (.ref 20), some (.ref 2)], [], h186, 2, 410) _
      refine am_steps ok_De_change 1 (x' := (358, [some (.ref 20), some (.ref 2)], [], h186, 2, 410)) rfl (Nat.le_of_ble_eq_true rfl) (Nat.le_of_ble_eq_true rfl) ?_
      cases hd; exact am_ret ok_De_change rfl (Nat.le_of_ble_eq_true rfl) (Nat.le_of_ble_eq_true rfl) ⟨rfl, hR188, f191, ((hE.rf.tr e176).tr e190)⟩
    exact ar_tswk ok_De_change rfl hc162 (by decide +kernel) rfl rfl (Nat.le_of_ble_eq_true rfl) (Nat.le_of_ble_eq_true rfl) KT163
  rw [if_neg hc162] at hd
  by_cases hc193 : (S.2.1 804 2) = 10
  · rw [if_pos hc193] at hd
    have KT194 : am_S am_Pr none 8 175 257 2570 154 (292, [some (.ref 20), some (.ref 2)], [], h0, 0, 0) (hQv q S.1 h0) := by
      refine am_steps ok_De_change 1 (x' := (293, [some (.ref 20), some (.ref 2)], [.ref 20], h0, 0, 0)) rfl (Nat.le_of_ble_eq_true rfl) (Nat.le_of_ble_eq_true rfl) ?_
      refine hr_get ok_De_change rfl hR (kd := 5) (hs_k hR (a := 20) rfl) rfl (Nat.le_of_ble_eq_true rfl) (Nat.le_of_ble_eq_true rfl) (v := .ref 10) (congrArg va_rf (hR.2.2.2.2.1 (500, 20, 10) (by decide))) (pc' := 296) rfl (Nat.le_of_ble_eq_true rfl) (Nat.le_of_ble_eq_true rfl) ?_
      refine am_steps ok_De_change 1 (x' := (297, [some (.ref 20), some (.ref 2)], [.ref 20, .ref 10], h0, 0, 0)) rfl (Nat.le_of_ble_eq_true rfl) (Nat.le_of_ble_eq_true rfl) ?_
      refine hr_get ok_De_change rfl hR (kd := 5) (hs_k hR (a := 20) rfl) rfl (Nat.le_of_ble_eq_true rfl) (Nat.le_of_ble_eq_true rfl) (v := .ref 10) (congrArg va_rf (hR.2.2.2.2.1 (500, 20, 10) (by decide))) (pc' := 300) rfl (Nat.le_of_ble_eq_true rfl) (Nat.le_of_ble_eq_true rfl) ?_
      refine am_steps ok_De_change 1 (x' := (301, [some (.ref 20), some (.ref 2)], [.ref 2, .ref 10, .ref 10], h0, 0, 0)) rfl (Nat.le_of_ble_eq_true rfl) (Nat.le_of_ble_eq_true rfl) ?_
      refine hr_get ok_De_change rfl hR (kd := 8) (hs_k hR (a := 2) rfl) rfl (Nat.le_of_ble_eq_true rfl) (Nat.le_of_ble_eq_true rfl) (v := .int (S.2.1 813 2)) rfl (pc' := 304) rfl (Nat.le_of_ble_eq_true rfl) (Nat.le_of_ble_eq_true rfl) ?_
      refine am_steps ok_De_change 1 (x' := (305, [some (.ref 20), some (.ref 2)], [.ref 2, .int (S.2.1 813 2), .ref 10, .ref 10], h0, 0, 0)) rfl (Nat.le_of_ble_eq_true rfl) (Nat.le_of_ble_eq_true rfl) ?_
      refine hr_get ok_De_change rfl hR (kd := 8) (hs_k hR (a := 2) rfl) rfl (Nat.le_of_ble_eq_true rfl) (Nat.le_of_ble_eq_true rfl) (v := .ref 5) (congrArg va_rf (hR.2.2.2.2.1 (809, 2, 5) (by decide))) (pc' := 308) rfl (Nat.le_of_ble_eq_true rfl) (Nat.le_of_ble_eq_true rfl) ?_
      refine am_steps ok_De_change 1 (x' := (309, [some (.ref 20), some (.ref 2)], [.int 0, .ref 5, .int (S.2.1 813 2), .ref 10, .ref 10], h0, 0, 0)) rfl (Nat.le_of_ble_eq_true rfl) (Nat.le_of_ble_eq_true rfl) ?_
      obtain ⟨j195, hx196, hd197⟩ := Option.bind_eq_some_iff.mp hd; clear hd; have hd := hd197; clear hd197
      refine hr_iald ok_De_change rfl hR (hs_k hR (a := 5) rfl) (hs_ln hR rfl) hx196 (pc' := 310) rfl (Nat.le_of_ble_eq_true rfl) (Nat.le_of_ble_eq_true rfl) ?_
      obtain ⟨q198, hq199, hd200⟩ := Option.bind_eq_some_iff.mp hd; clear hd; have hd := hd200; clear hd200
      refine ar_cv ok_De_change hk_Bo_room rfl rfl (As := [.int (S.2.1 813 2), .int (S.2.2.2.2.1 5 j195)]) (ad := 10) (rest := [.ref 10]) rfl rfl (hR.ob (hs_k hR (a := 10) rfl) (Nat.le_of_ble_eq_true rfl)) (Nat.le_of_ble_eq_true rfl) (c_Bo_room (S.2.1 813 2) (S.2.2.2.2.1 5 j195) S h0 hR  q198 hq199) (Nat.le_of_ble_eq_true rfl) (Nat.le_of_ble_eq_true rfl) (Nat.le_of_ble_eq_true rfl) (Nat.le_of_ble_eq_true rfl) (pc' := 313) rfl (fun r201 h203 z202 => ?_)
      obtain ⟨rfl, hk204, hR205, g206, e207⟩ := z202
      have f208 := hF.tr hF.rf g206
      show am_S _ _ _ _ _ _ _ (313, [some (.ref 20), some (.ref 2)], [.ref q198.1, .ref 10], h203, 2, 410) _
      obtain ⟨q209, hq210, hd211⟩ := Option.bind_eq_some_iff.mp hd; clear hd; have hd := hd211; clear hd211
      refine ar_cv ok_De_change hk_Bo_dropLimit rfl rfl (As := [.ref q198.1]) (ad := 10) (rest := []) rfl rfl (hR205.ob (hs_k hR205 (a := 10) rfl) (Nat.le_of_ble_eq_true rfl)) (Nat.le_of_ble_eq_true rfl) (c_Bo_dropLimit q198.1 q198.2 h203 hR205 (hk204 _ rfl) q209 hq210) (Nat.le_of_ble_eq_true rfl) (Nat.le_of_ble_eq_true rfl) (Nat.le_of_ble_eq_true rfl) (Nat.le_of_ble_eq_true rfl) (pc' := 316) rfl (fun r212 h214 z213 => ?_)
      obtain ⟨rfl, hR216, g217, e218⟩ := z213
      have f219 := hF.tr f208 g217
      show am_S _ _ _ _ _ _ _ (316, [some (.ref 20), some (.ref 2)], [], h214, 2, 410) _
      refine am_steps ok_De_change 1 (x' := (358, [some (.ref 20), some (.ref 2)], [], h214, 2, 410)) rfl (Nat.le_of_ble_eq_true rfl) (Nat.le_of_ble_eq_true rfl) ?_
      cases hd; exact am_ret ok_De_change rfl (Nat.le_of_ble_eq_true rfl) (Nat.le_of_ble_eq_true rfl) ⟨rfl, hR216, f219, ((hE.rf.tr e207).tr e218)⟩
    exact ar_tswk ok_De_change rfl hc193 (by decide +kernel) rfl rfl (Nat.le_of_ble_eq_true rfl) (Nat.le_of_ble_eq_true rfl) KT194
  rw [if_neg hc193] at hd
  by_cases hc221 : (S.2.1 804 2) = 11
  · rw [if_pos hc221] at hd
    have KT222 : am_S am_Pr none 8 175 257 2570 154 (319, [some (.ref 20), some (.ref 2)], [], h0, 0, 0) (hQv q S.1 h0) := by
      refine am_steps ok_De_change 3 (x' := (322, [some (.ref 20), some (.ref 2)], [.ref 2, .ref 2, .ref 20], h0, 0, 0)) rfl (Nat.le_of_ble_eq_true rfl) (Nat.le_of_ble_eq_true rfl) ?_
      refine hr_get ok_De_change rfl hR (kd := 8) (hs_k hR (a := 2) rfl) rfl (Nat.le_of_ble_eq_true rfl) (Nat.le_of_ble_eq_true rfl) (v := .ref 6) (congrArg va_rf (hR.2.2.2.2.1 (811, 2, 6) (by decide))) (pc' := 325) rfl (Nat.le_of_ble_eq_true rfl) (Nat.le_of_ble_eq_true rfl) ?_
      refine am_steps ok_De_change 1 (x' := (326, [some (.ref 20), some (.ref 2)], [.int 0, .ref 6, .ref 2, .ref 20], h0, 0, 0)) rfl (Nat.le_of_ble_eq_true rfl) (Nat.le_of_ble_eq_true rfl) ?_
      obtain ⟨j223, hx224, hd225⟩ := Option.bind_eq_some_iff.mp hd; clear hd; have hd := hd225; clear hd225
      refine hr_lald ok_De_change rfl hR (hs_k hR (a := 6) rfl) (hs_ln hR rfl) hx224 (pc' := 327) rfl (Nat.le_of_ble_eq_true rfl) (Nat.le_of_ble_eq_true rfl) ?_
      obtain ⟨q226, hq227, hd228⟩ := Option.bind_eq_some_iff.mp hd; clear hd; have hd := hd228; clear hd228
      refine ar_cv ok_De_change hk_De_pledgeMore rfl rfl (As := [.ref 2, .long (S.2.2.2.2.2.1 6 j223)]) (ad := 20) (rest := []) rfl rfl (hR.ob (hs_k hR (a := 20) rfl) (Nat.le_of_ble_eq_true rfl)) (Nat.le_of_ble_eq_true rfl) (c_De_pledgeMore (S.2.2.2.2.2.1 6 j223) S h0 hR  q226 hq227) (Nat.le_of_ble_eq_true rfl) (Nat.le_of_ble_eq_true rfl) (Nat.le_of_ble_eq_true rfl) (Nat.le_of_ble_eq_true rfl) (pc' := 330) rfl (fun r229 h231 z230 => ?_)
      obtain ⟨rfl, hR233, g234, e235⟩ := z230
      have f236 := hF.tr hF.rf g234
      show am_S _ _ _ _ _ _ _ (330, [some (.ref 20), some (.ref 2)], [], h231, 2, 20) _
      refine am_steps ok_De_change 1 (x' := (358, [some (.ref 20), some (.ref 2)], [], h231, 2, 20)) rfl (Nat.le_of_ble_eq_true rfl) (Nat.le_of_ble_eq_true rfl) ?_
      cases hd; exact am_ret ok_De_change rfl (Nat.le_of_ble_eq_true rfl) (Nat.le_of_ble_eq_true rfl) ⟨rfl, hR233, f236, (hE.rf.tr e235)⟩
    exact ar_tswk ok_De_change rfl hc221 (by decide +kernel) rfl rfl (Nat.le_of_ble_eq_true rfl) (Nat.le_of_ble_eq_true rfl) KT222
  rw [if_neg hc221] at hd
  by_cases hc238 : (S.2.1 804 2) = 12
  · rw [if_pos hc238] at hd
    have KT239 : am_S am_Pr none 8 175 257 2570 154 (333, [some (.ref 20), some (.ref 2)], [], h0, 0, 0) (hQv q S.1 h0) := by
      refine am_steps ok_De_change 3 (x' := (336, [some (.ref 20), some (.ref 2)], [.ref 2, .ref 2, .ref 20], h0, 0, 0)) rfl (Nat.le_of_ble_eq_true rfl) (Nat.le_of_ble_eq_true rfl) ?_
      refine hr_get ok_De_change rfl hR (kd := 8) (hs_k hR (a := 2) rfl) rfl (Nat.le_of_ble_eq_true rfl) (Nat.le_of_ble_eq_true rfl) (v := .ref 6) (congrArg va_rf (hR.2.2.2.2.1 (811, 2, 6) (by decide))) (pc' := 339) rfl (Nat.le_of_ble_eq_true rfl) (Nat.le_of_ble_eq_true rfl) ?_
      refine am_steps ok_De_change 1 (x' := (340, [some (.ref 20), some (.ref 2)], [.int 0, .ref 6, .ref 2, .ref 20], h0, 0, 0)) rfl (Nat.le_of_ble_eq_true rfl) (Nat.le_of_ble_eq_true rfl) ?_
      obtain ⟨j240, hx241, hd242⟩ := Option.bind_eq_some_iff.mp hd; clear hd; have hd := hd242; clear hd242
      refine hr_lald ok_De_change rfl hR (hs_k hR (a := 6) rfl) (hs_ln hR rfl) hx241 (pc' := 341) rfl (Nat.le_of_ble_eq_true rfl) (Nat.le_of_ble_eq_true rfl) ?_
      refine am_steps ok_De_change 1 (x' := (342, [some (.ref 20), some (.ref 2)], [.long (-(S.2.2.2.2.2.1 6 j240)), .ref 2, .ref 20], h0, 0, 0)) rfl (Nat.le_of_ble_eq_true rfl) (Nat.le_of_ble_eq_true rfl) ?_
      obtain ⟨q243, hq244, hd245⟩ := Option.bind_eq_some_iff.mp hd; clear hd; have hd := hd245; clear hd245
      refine ar_cv ok_De_change hk_De_pledgeMore rfl rfl (As := [.ref 2, .long (-(S.2.2.2.2.2.1 6 j240))]) (ad := 20) (rest := []) rfl rfl (hR.ob (hs_k hR (a := 20) rfl) (Nat.le_of_ble_eq_true rfl)) (Nat.le_of_ble_eq_true rfl) (c_De_pledgeMore (-(S.2.2.2.2.2.1 6 j240)) S h0 hR  q243 hq244) (Nat.le_of_ble_eq_true rfl) (Nat.le_of_ble_eq_true rfl) (Nat.le_of_ble_eq_true rfl) (Nat.le_of_ble_eq_true rfl) (pc' := 345) rfl (fun r246 h248 z247 => ?_)
      obtain ⟨rfl, hR250, g251, e252⟩ := z247
      have f253 := hF.tr hF.rf g251
      show am_S _ _ _ _ _ _ _ (345, [some (.ref 20), some (.ref 2)], [], h248, 2, 20) _
      refine am_steps ok_De_change 1 (x' := (358, [some (.ref 20), some (.ref 2)], [], h248, 2, 20)) rfl (Nat.le_of_ble_eq_true rfl) (Nat.le_of_ble_eq_true rfl) ?_
      cases hd; exact am_ret ok_De_change rfl (Nat.le_of_ble_eq_true rfl) (Nat.le_of_ble_eq_true rfl) ⟨rfl, hR250, f253, (hE.rf.tr e252)⟩
    exact ar_tswk ok_De_change rfl hc238 (by decide +kernel) rfl rfl (Nat.le_of_ble_eq_true rfl) (Nat.le_of_ble_eq_true rfl) KT239
  rw [if_neg hc238] at hd
  by_cases hc255 : (S.2.1 804 2) = 13
  · rw [if_pos hc255] at hd
    have KT256 : am_S am_Pr none 8 175 257 2570 154 (348, [some (.ref 20), some (.ref 2)], [], h0, 0, 0) (hQv q S.1 h0) := by
      refine am_steps ok_De_change 1 (x' := (349, [some (.ref 20), some (.ref 2)], [.ref 20], h0, 0, 0)) rfl (Nat.le_of_ble_eq_true rfl) (Nat.le_of_ble_eq_true rfl) ?_
      refine hr_get ok_De_change rfl hR (kd := 5) (hs_k hR (a := 20) rfl) rfl (Nat.le_of_ble_eq_true rfl) (Nat.le_of_ble_eq_true rfl) (v := .ref 16) (congrArg va_rf (hR.2.2.2.2.1 (501, 20, 16) (by decide))) (pc' := 352) rfl (Nat.le_of_ble_eq_true rfl) (Nat.le_of_ble_eq_true rfl) ?_
      obtain ⟨q257, hq258, hd259⟩ := Option.bind_eq_some_iff.mp hd; clear hd; have hd := hd259; clear hd259
      refine ar_cv ok_De_change hk_Qu_resolve rfl rfl (As := []) (ad := 16) (rest := []) rfl rfl (hR.ob (hs_k hR (a := 16) rfl) (Nat.le_of_ble_eq_true rfl)) (Nat.le_of_ble_eq_true rfl) (c_Qu_resolve  S h0 hR  q257 hq258) (Nat.le_of_ble_eq_true rfl) (Nat.le_of_ble_eq_true rfl) (Nat.le_of_ble_eq_true rfl) (Nat.le_of_ble_eq_true rfl) (pc' := 355) rfl (fun r260 h262 z261 => ?_)
      obtain ⟨rfl, hR264, g265, e266⟩ := z261
      have f267 := hF.tr hF.rf g265
      show am_S _ _ _ _ _ _ _ (355, [some (.ref 20), some (.ref 2)], [], h262, 0, 0) _
      refine am_steps ok_De_change 1 (x' := (358, [some (.ref 20), some (.ref 2)], [], h262, 0, 0)) rfl (Nat.le_of_ble_eq_true rfl) (Nat.le_of_ble_eq_true rfl) ?_
      cases hd; exact am_ret ok_De_change rfl (Nat.le_of_ble_eq_true rfl) (Nat.le_of_ble_eq_true rfl) ⟨rfl, hR264, f267, (hE.rf.tr e266)⟩
    exact ar_tswk ok_De_change rfl hc255 (by decide +kernel) rfl rfl (Nat.le_of_ble_eq_true rfl) (Nat.le_of_ble_eq_true rfl) KT256
  rw [if_neg hc255] at hd
  have KT269 : am_S am_Pr none 8 175 257 2570 154 (358, [some (.ref 20), some (.ref 2)], [], h0, 0, 0) (hQv q S.1 h0) := by
    cases hd; exact am_ret ok_De_change rfl (Nat.le_of_ble_eq_true rfl) (Nat.le_of_ble_eq_true rfl) ⟨rfl, hR, hF.rf, hE.rf⟩
  by_cases hc270 : (S.2.1 804 2) = 5
  · exact ar_tswk ok_De_change rfl hc270 (by decide +kernel) rfl rfl (Nat.le_of_ble_eq_true rfl) (Nat.le_of_ble_eq_true rfl) KT269
  by_cases hc271 : (S.2.1 804 2) = 6
  · exact ar_tswk ok_De_change rfl hc271 (by decide +kernel) rfl rfl (Nat.le_of_ble_eq_true rfl) (Nat.le_of_ble_eq_true rfl) KT269
  have ho276 : (S.2.1 804 2).toInt < 0 ∨ 13 < (S.2.1 804 2).toInt := tsw_out (fun c273 h274 h275 e272 => by
    have c273x : c273 = 0 ∨ c273 = 1 ∨ c273 = 2 ∨ c273 = 3 ∨ c273 = 4 ∨ c273 = 5 ∨ c273 = 6 ∨ c273 = 7 ∨ c273 = 8 ∨ c273 = 9 ∨ c273 = 10 ∨ c273 = 11 ∨ c273 = 12 ∨ c273 = 13 := by omega
    rcases c273x with rfl | rfl | rfl | rfl | rfl | rfl | rfl | rfl | rfl | rfl | rfl | rfl | rfl | rfl
    · exact hc1 e272
    · exact hc15 e272
    · exact hc52 e272
    · exact hc72 e272
    · exact hc95 e272
    · exact hc270 e272
    · exact hc271 e272
    · exact hc118 e272
    · exact hc140 e272
    · exact hc162 e272
    · exact hc193 e272
    · exact hc221 e272
    · exact hc238 e272
    · exact hc255 e272)
  exact ar_tsw ok_De_change rfl ho276 rfl (Nat.le_of_ble_eq_true rfl) (Nat.le_of_ble_eq_true rfl) KT269
