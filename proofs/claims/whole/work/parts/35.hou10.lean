/-! Methods of the class as functions of its state. -/
def h_Qu_leave (a : Option Nat) (S : hS) : Option (hS) := if a = none then (some S) else ((a).bind fun b2 => (if ¬ ((S.2.1 704 b2) : Int32) = 1 then (if ¬ ((S.2.1 704 b2) : Int32) = 0 then (some S) else ((h_Qu_takeOut 18 (S.2.1 1103 16) b2 S).bind fun q8 => (some (hpI q8.2 1103 16 q8.1)))) else ((h_Qu_takeOut 17 (S.2.1 1101 16) b2 S).bind fun q23 => (some (hpI q23.2 1101 16 q23.1)))))
set_option maxHeartbeats 4000000 in
set_option maxRecDepth 100000 in
theorem c_Qu_leave (a : Option Nat) (S : hS) (h0 : am_H) (hR : RH S h0) (ha : ∀ b, a = some b → hK S.1 b 7) (q : hS) (hd : h_Qu_leave a S = some q) : am_Me am_Pr none 1 24 0 0 213 [.ref 16, va_rf a] h0 (hQv q S.1 h0) := by
  refine am_enter (d := hd_Qu_leave) rfl (by decide +kernel) (by cases a <;> exact Nat.le_of_ble_eq_true rfl) ?_
  rw [show am_en hd_Qu_leave.2.2.1 [.ref 16, va_rf a] = [some (.ref 16), some (va_rf a)] by cases a <;> rfl]
  show am_S _ _ _ _ _ _ _ (0, [some (.ref 16), some (va_rf a)], [], h0, 0, 0) _
  unfold h_Qu_leave at hd
  refine hr_aloadn ok_Qu_leave rfl rfl (pc' := 1) rfl (Nat.le_of_ble_eq_true rfl) (Nat.le_of_ble_eq_true rfl) ?_
  refine hr_ifnon ok_Qu_leave rfl (pc' := 4) rfl (Nat.le_of_ble_eq_true rfl) (Nat.le_of_ble_eq_true rfl) ?_
  refine am_if (fun hc1 => ?_) (fun hc1 => ?_)
  · rw [if_pos hc1] at hd
    cases hd; exact am_ret ok_Qu_leave rfl (Nat.le_of_ble_eq_true rfl) (Nat.le_of_ble_eq_true rfl) ⟨rfl, hR, hF.rf, hE.rf⟩
  · rw [if_neg hc1] at hd
    obtain ⟨b2, hb3, hd4⟩ := Option.bind_eq_some_iff.mp hd; clear hd; have hd := hd4; clear hd4
    have hk5 := ha b2 hb3
    rw [hb3]
    show am_S _ _ _ _ _ _ _ (5, [some (.ref 16), some (.ref b2)], [], h0, 0, 0) _
    refine am_steps ok_Qu_leave 1 (x' := (6, [some (.ref 16), some (.ref b2)], [.ref b2], h0, 0, 0)) rfl (Nat.le_of_ble_eq_true rfl) (Nat.le_of_ble_eq_true rfl) ?_
    refine hr_get ok_Qu_leave rfl hR (kd := 7) hk5 rfl (Nat.le_of_ble_eq_true rfl) (Nat.le_of_ble_eq_true rfl) (v := .int (S.2.1 704 b2)) rfl (pc' := 9) rfl (Nat.le_of_ble_eq_true rfl) (Nat.le_of_ble_eq_true rfl) ?_
    refine am_steps ok_Qu_leave 2 (x' := (if ¬ ((S.2.1 704 b2) : Int32) = 1 then 32 else 13, [some (.ref 16), some (.ref b2)], [], h0, 0, 0)) rfl (Nat.le_of_ble_eq_true rfl) (Nat.le_of_ble_eq_true rfl) ?_
    refine am_if (fun hc6 => ?_) (fun hc6 => ?_)
    · rw [if_pos hc6] at hd
      refine am_steps ok_Qu_leave 1 (x' := (33, [some (.ref 16), some (.ref b2)], [.ref b2], h0, 0, 0)) rfl (Nat.le_of_ble_eq_true rfl) (Nat.le_of_ble_eq_true rfl) ?_
      refine hr_get ok_Qu_leave rfl hR (kd := 7) hk5 rfl (Nat.le_of_ble_eq_true rfl) (Nat.le_of_ble_eq_true rfl) (v := .int (S.2.1 704 b2)) rfl (pc' := 36) rfl (Nat.le_of_ble_eq_true rfl) (Nat.le_of_ble_eq_true rfl) ?_
      refine am_steps ok_Qu_leave 1 (x' := (if ¬ ((S.2.1 704 b2) : Int32) = 0 then 55 else 39, [some (.ref 16), some (.ref b2)], [], h0, 0, 0)) rfl (Nat.le_of_ble_eq_true rfl) (Nat.le_of_ble_eq_true rfl) ?_
      refine am_if (fun hc7 => ?_) (fun hc7 => ?_)
      · rw [if_pos hc7] at hd
        cases hd; exact am_ret ok_Qu_leave rfl (Nat.le_of_ble_eq_true rfl) (Nat.le_of_ble_eq_true rfl) ⟨rfl, hR, hF.rf, hE.rf⟩
      · rw [if_neg hc7] at hd
        refine am_steps ok_Qu_leave 2 (x' := (41, [some (.ref 16), some (.ref b2)], [.ref 16, .ref 16], h0, 0, 0)) rfl (Nat.le_of_ble_eq_true rfl) (Nat.le_of_ble_eq_true rfl) ?_
        refine hr_get ok_Qu_leave rfl hR (kd := 11) (hs_k hR (a := 16) rfl) rfl (Nat.le_of_ble_eq_true rfl) (Nat.le_of_ble_eq_true rfl) (v := .ref 18) (congrArg va_rf (hR.2.2.2.2.1 (1102, 16, 18) (by decide))) (pc' := 44) rfl (Nat.le_of_ble_eq_true rfl) (Nat.le_of_ble_eq_true rfl) ?_
        refine am_steps ok_Qu_leave 1 (x' := (45, [some (.ref 16), some (.ref b2)], [.ref 16, .ref 18, .ref 16], h0, 0, 0)) rfl (Nat.le_of_ble_eq_true rfl) (Nat.le_of_ble_eq_true rfl) ?_
        refine hr_get ok_Qu_leave rfl hR (kd := 11) (hs_k hR (a := 16) rfl) rfl (Nat.le_of_ble_eq_true rfl) (Nat.le_of_ble_eq_true rfl) (v := .int (S.2.1 1103 16)) rfl (pc' := 48) rfl (Nat.le_of_ble_eq_true rfl) (Nat.le_of_ble_eq_true rfl) ?_
        refine am_steps ok_Qu_leave 1 (x' := (49, [some (.ref 16), some (.ref b2)], [.ref b2, .int (S.2.1 1103 16), .ref 18, .ref 16], h0, 0, 0)) rfl (Nat.le_of_ble_eq_true rfl) (Nat.le_of_ble_eq_true rfl) ?_
        obtain ⟨q8, hq9, hd10⟩ := Option.bind_eq_some_iff.mp hd; clear hd; have hd := hd10; clear hd10
        refine am_call ok_Qu_leave hk_Qu_takeOut rfl (args' := [.ref 18, .int (S.2.1 1103 16), .ref b2]) (rest := [.ref 16]) rfl (c_Qu_takeOut 18 (S.2.1 1103 16) b2 S h0 hR (hs_k hR (a := 18) rfl) hk5 q8 hq9) (Nat.le_of_ble_eq_true rfl) (Nat.le_of_ble_eq_true rfl) (Nat.le_of_ble_eq_true rfl) (Nat.le_of_ble_eq_true rfl) (fun r11 h13 z12 => ?_)
        obtain ⟨rfl, hR15, g16, e17⟩ := z12
        have f18 := hF.tr hF.rf g16
        show am_S _ _ _ _ _ _ _ (52, [some (.ref 16), some (.ref b2)], [.int q8.1, .ref 16], h13, 0, 0) _
        refine hr_put ok_Qu_leave rfl hR15 (kd := 11) (hs_k hR15 (a := 16) rfl) rfl (Nat.le_of_ble_eq_true rfl) (Nat.le_of_ble_eq_true rfl) rfl (S' := (hpI q8.2 1103 16 q8.1)) rfl (hWT.up hR15.2.2 rfl rfl rfl) (pc' := 55) rfl (Nat.le_of_ble_eq_true rfl) (Nat.le_of_ble_eq_true rfl) (fun h19 hR20 g21 => ?_)
        have f22 := hF.tr f18 g21
        cases hd; exact am_ret ok_Qu_leave rfl (Nat.le_of_ble_eq_true rfl) (Nat.le_of_ble_eq_true rfl) ⟨rfl, hR20, f22, (hE.rf.tr e17)⟩
    · rw [if_neg hc6] at hd
      refine am_steps ok_Qu_leave 2 (x' := (15, [some (.ref 16), some (.ref b2)], [.ref 16, .ref 16], h0, 0, 0)) rfl (Nat.le_of_ble_eq_true rfl) (Nat.le_of_ble_eq_true rfl) ?_
      refine hr_get ok_Qu_leave rfl hR (kd := 11) (hs_k hR (a := 16) rfl) rfl (Nat.le_of_ble_eq_true rfl) (Nat.le_of_ble_eq_true rfl) (v := .ref 17) (congrArg va_rf (hR.2.2.2.2.1 (1100, 16, 17) (by decide))) (pc' := 18) rfl (Nat.le_of_ble_eq_true rfl) (Nat.le_of_ble_eq_true rfl) ?_
      refine am_steps ok_Qu_leave 1 (x' := (19, [some (.ref 16), some (.ref b2)], [.ref 16, .ref 17, .ref 16], h0, 0, 0)) rfl (Nat.le_of_ble_eq_true rfl) (Nat.le_of_ble_eq_true rfl) ?_
      refine hr_get ok_Qu_leave rfl hR (kd := 11) (hs_k hR (a := 16) rfl) rfl (Nat.le_of_ble_eq_true rfl) (Nat.le_of_ble_eq_true rfl) (v := .int (S.2.1 1101 16)) rfl (pc' := 22) rfl (Nat.le_of_ble_eq_true rfl) (Nat.le_of_ble_eq_true rfl) ?_
      refine am_steps ok_Qu_leave 1 (x' := (23, [some (.ref 16), some (.ref b2)], [.ref b2, .int (S.2.1 1101 16), .ref 17, .ref 16], h0, 0, 0)) rfl (Nat.le_of_ble_eq_true rfl) (Nat.le_of_ble_eq_true rfl) ?_
      obtain ⟨q23, hq24, hd25⟩ := Option.bind_eq_some_iff.mp hd; clear hd; have hd := hd25; clear hd25
      refine am_call ok_Qu_leave hk_Qu_takeOut rfl (args' := [.ref 17, .int (S.2.1 1101 16), .ref b2]) (rest := [.ref 16]) rfl (c_Qu_takeOut 17 (S.2.1 1101 16) b2 S h0 hR (hs_k hR (a := 17) rfl) hk5 q23 hq24) (Nat.le_of_ble_eq_true rfl) (Nat.le_of_ble_eq_true rfl) (Nat.le_of_ble_eq_true rfl) (Nat.le_of_ble_eq_true rfl) (fun r26 h28 z27 => ?_)
      obtain ⟨rfl, hR30, g31, e32⟩ := z27
      have f33 := hF.tr hF.rf g31
      show am_S _ _ _ _ _ _ _ (26, [some (.ref 16), some (.ref b2)], [.int q23.1, .ref 16], h28, 0, 0) _
      refine hr_put ok_Qu_leave rfl hR30 (kd := 11) (hs_k hR30 (a := 16) rfl) rfl (Nat.le_of_ble_eq_true rfl) (Nat.le_of_ble_eq_true rfl) rfl (S' := (hpI q23.2 1101 16 q23.1)) rfl (hWT.up hR30.2.2 rfl rfl rfl) (pc' := 29) rfl (Nat.le_of_ble_eq_true rfl) (Nat.le_of_ble_eq_true rfl) (fun h34 hR35 g36 => ?_)
      have f37 := hF.tr f33 g36
      refine am_steps ok_Qu_leave 1 (x' := (55, [some (.ref 16), some (.ref b2)], [], h34, 0, 0)) rfl (Nat.le_of_ble_eq_true rfl) (Nat.le_of_ble_eq_true rfl) ?_
      cases hd; exact am_ret ok_Qu_leave rfl (Nat.le_of_ble_eq_true rfl) (Nat.le_of_ble_eq_true rfl) ⟨rfl, hR35, f37, (hE.rf.tr e32)⟩
def h_De_confirm  (S : hS) : Option (Option Nat × hS) := (am_ix 0 12).bind fun j1 => ((h_Qu_find (S.2.2.2.2.1 5 j1) (S.2.2.1 818 2) S).bind fun q4 => (if q4 = none then (some (none, S)) else ((q4).bind fun b13 => ((h_In_confirmBy b13 (S.2.1 813 2) S).bind fun q17 => ((h_In_awaitsNobody b13 q17).bind fun q28 => ((if (q28 : Int32) = 0 then (some q17) else ((h_Qu_leave (some b13) q17).bind fun q45 => ((h_Qu_come b13 q45).bind fun q56 => (some q56)))).bind fun (u36 : hS) => (some ((some b13), u36))))))))
set_option maxHeartbeats 4000000 in
set_option maxRecDepth 100000 in
theorem c_De_confirm  (S : hS) (h0 : am_H) (hR : RH S h0)  (q : Option Nat × hS) (hd : h_De_confirm  S = some q) : am_Me am_Pr none 2 49 0 0 158 [.ref 20, .ref 2] h0 (hQo (va_rf q.1) q.1 7 q.2 S.1 h0) := by
  refine am_enter (d := hd_De_confirm) rfl (by decide +kernel) (Nat.le_of_ble_eq_true rfl) ?_
  show am_S _ _ _ _ _ _ _ (0, [some (.ref 20), some (.ref 2), none], [], h0, 0, 0) _
  unfold h_De_confirm at hd
  refine am_steps ok_De_confirm 1 (x' := (1, [some (.ref 20), some (.ref 2), none], [.ref 20], h0, 0, 0)) rfl (Nat.le_of_ble_eq_true rfl) (Nat.le_of_ble_eq_true rfl) ?_
  refine hr_get ok_De_confirm rfl hR (kd := 5) (hs_k hR (a := 20) rfl) rfl (Nat.le_of_ble_eq_true rfl) (Nat.le_of_ble_eq_true rfl) (v := .ref 16) (congrArg va_rf (hR.2.2.2.2.1 (501, 20, 16) (by decide))) (pc' := 4) rfl (Nat.le_of_ble_eq_true rfl) (Nat.le_of_ble_eq_true rfl) ?_
  refine am_steps ok_De_confirm 1 (x' := (5, [some (.ref 20), some (.ref 2), none], [.ref 2, .ref 16], h0, 0, 0)) rfl (Nat.le_of_ble_eq_true rfl) (Nat.le_of_ble_eq_true rfl) ?_
  refine hr_get ok_De_confirm rfl hR (kd := 8) (hs_k hR (a := 2) rfl) rfl (Nat.le_of_ble_eq_true rfl) (Nat.le_of_ble_eq_true rfl) (v := .ref 5) (congrArg va_rf (hR.2.2.2.2.1 (809, 2, 5) (by decide))) (pc' := 8) rfl (Nat.le_of_ble_eq_true rfl) (Nat.le_of_ble_eq_true rfl) ?_
  refine am_steps ok_De_confirm 1 (x' := (9, [some (.ref 20), some (.ref 2), none], [.int 0, .ref 5, .ref 16], h0, 0, 0)) rfl (Nat.le_of_ble_eq_true rfl) (Nat.le_of_ble_eq_true rfl) ?_
  obtain ⟨j1, hx2, hd3⟩ := Option.bind_eq_some_iff.mp hd; clear hd; have hd := hd3; clear hd3
  refine hr_iald ok_De_confirm rfl hR (hs_k hR (a := 5) rfl) (hs_ln hR rfl) hx2 (pc' := 10) rfl (Nat.le_of_ble_eq_true rfl) (Nat.le_of_ble_eq_true rfl) ?_
  refine am_steps ok_De_confirm 1 (x' := (11, [some (.ref 20), some (.ref 2), none], [.ref 2, .int (S.2.2.2.2.1 5 j1), .ref 16], h0, 0, 0)) rfl (Nat.le_of_ble_eq_true rfl) (Nat.le_of_ble_eq_true rfl) ?_
  refine hr_get ok_De_confirm rfl hR (kd := 8) (hs_k hR (a := 2) rfl) rfl (Nat.le_of_ble_eq_true rfl) (Nat.le_of_ble_eq_true rfl) (v := .long (S.2.2.1 818 2)) rfl (pc' := 14) rfl (Nat.le_of_ble_eq_true rfl) (Nat.le_of_ble_eq_true rfl) ?_
  obtain ⟨q4, hq5, hd6⟩ := Option.bind_eq_some_iff.mp hd; clear hd; have hd := hd6; clear hd6
  refine ar_cv ok_De_confirm hk_Qu_find rfl rfl (As := [.int (S.2.2.2.2.1 5 j1), .long (S.2.2.1 818 2)]) (ad := 16) (rest := []) rfl rfl (hR.ob (hs_k hR (a := 16) rfl) (Nat.le_of_ble_eq_true rfl)) (Nat.le_of_ble_eq_true rfl) (c_Qu_find (S.2.2.2.2.1 5 j1) (S.2.2.1 818 2) S h0 hR  q4 hq5) (Nat.le_of_ble_eq_true rfl) (Nat.le_of_ble_eq_true rfl) (Nat.le_of_ble_eq_true rfl) (Nat.le_of_ble_eq_true rfl) (pc' := 17) rfl (fun r7 h9 z8 => ?_)
  obtain ⟨rfl, z11, hk10⟩ := z8; rw [z11]
  show am_S _ _ _ _ _ _ _ (17, [some (.ref 20), some (.ref 2), none], [va_rf q4], h0, 0, 0) _
  refine hr_astoren ok_De_confirm rfl (Nat.le_of_ble_eq_true rfl) (lo' := [some (.ref 20), some (.ref 2), some (va_rf q4)]) rfl (pc' := 18) rfl (Nat.le_of_ble_eq_true rfl) (Nat.le_of_ble_eq_true rfl) ?_
  refine hr_aloadn ok_De_confirm rfl rfl (pc' := 19) rfl (Nat.le_of_ble_eq_true rfl) (Nat.le_of_ble_eq_true rfl) ?_
  refine hr_ifnon ok_De_confirm rfl (pc' := 22) rfl (Nat.le_of_ble_eq_true rfl) (Nat.le_of_ble_eq_true rfl) ?_
  refine am_if (fun hc12 => ?_) (fun hc12 => ?_)
  · rw [if_pos hc12] at hd
    refine am_steps ok_De_confirm 1 (x' := (23, [some (.ref 20), some (.ref 2), some (va_rf q4)], [.null], h0, 0, 0)) rfl (Nat.le_of_ble_eq_true rfl) (Nat.le_of_ble_eq_true rfl) ?_
    cases hd; exact am_ret ok_De_confirm rfl (Nat.le_of_ble_eq_true rfl) (Nat.le_of_ble_eq_true rfl) ⟨rfl, (fun _ hz => nomatch hz), hR, hF.rf, hE.rf⟩
  · rw [if_neg hc12] at hd
    obtain ⟨b13, hb14, hd15⟩ := Option.bind_eq_some_iff.mp hd; clear hd; have hd := hd15; clear hd15
    have hk16 := hk10 b13 hb14
    rw [hb14]
    show am_S _ _ _ _ _ _ _ (24, [some (.ref 20), some (.ref 2), some (.ref b13)], [], h0, 0, 0) _
    refine am_steps ok_De_confirm 2 (x' := (26, [some (.ref 20), some (.ref 2), some (.ref b13)], [.ref 2, .ref b13], h0, 0, 0)) rfl (Nat.le_of_ble_eq_true rfl) (Nat.le_of_ble_eq_true rfl) ?_
    refine hr_get ok_De_confirm rfl hR (kd := 8) (hs_k hR (a := 2) rfl) rfl (Nat.le_of_ble_eq_true rfl) (Nat.le_of_ble_eq_true rfl) (v := .int (S.2.1 813 2)) rfl (pc' := 29) rfl (Nat.le_of_ble_eq_true rfl) (Nat.le_of_ble_eq_true rfl) ?_
    obtain ⟨q17, hq18, hd19⟩ := Option.bind_eq_some_iff.mp hd; clear hd; have hd := hd19; clear hd19
    refine ar_cv ok_De_confirm hk_In_confirmBy rfl rfl (As := [.int (S.2.1 813 2)]) (ad := b13) (rest := []) rfl rfl (hR.ob hk16 (Nat.le_of_ble_eq_true rfl)) (Nat.le_of_ble_eq_true rfl) (c_In_confirmBy b13 (S.2.1 813 2) S h0 hR hk16 q17 hq18) (Nat.le_of_ble_eq_true rfl) (Nat.le_of_ble_eq_true rfl) (Nat.le_of_ble_eq_true rfl) (Nat.le_of_ble_eq_true rfl) (pc' := 32) rfl (fun r20 h22 z21 => ?_)
    obtain ⟨rfl, hR24, g25, e26⟩ := z21
    have f27 := hF.tr hF.rf g25
    show am_S _ _ _ _ _ _ _ (32, [some (.ref 20), some (.ref 2), some (.ref b13)], [], h22, 0, 0) _
    refine am_steps ok_De_confirm 1 (x' := (33, [some (.ref 20), some (.ref 2), some (.ref b13)], [.ref b13], h22, 0, 0)) rfl (Nat.le_of_ble_eq_true rfl) (Nat.le_of_ble_eq_true rfl) ?_
    obtain ⟨q28, hq29, hd30⟩ := Option.bind_eq_some_iff.mp hd; clear hd; have hd := hd30; clear hd30
    refine ar_cv ok_De_confirm hk_In_awaitsNobody rfl rfl (As := []) (ad := b13) (rest := []) rfl rfl (hR24.ob (hk16.up e26) (Nat.le_of_ble_eq_true rfl)) (Nat.le_of_ble_eq_true rfl) (c_In_awaitsNobody b13 q17 h22 hR24 (hk16.up e26) q28 hq29) (Nat.le_of_ble_eq_true rfl) (Nat.le_of_ble_eq_true rfl) (Nat.le_of_ble_eq_true rfl) (Nat.le_of_ble_eq_true rfl) (pc' := 36) rfl (fun r31 h33 z32 => ?_)
    obtain ⟨rfl, z35⟩ := z32; rw [z35]
    show am_S _ _ _ _ _ _ _ (36, [some (.ref 20), some (.ref 2), some (.ref b13)], [.int q28], h22, 0, 0) _
    refine am_steps ok_De_confirm 1 (x' := (if (q28 : Int32) = 0 then 55 else 39, [some (.ref 20), some (.ref 2), some (.ref b13)], [], h22, 0, 0)) rfl (Nat.le_of_ble_eq_true rfl) (Nat.le_of_ble_eq_true rfl) ?_
    obtain ⟨u36, hA38, hB39⟩ := Option.bind_eq_some_iff.mp hd; clear hd
    have K37 : ∀ h' : am_H, RH u36 h' → hF h0 h' → hE q17.1 u36.1 → am_S am_Pr none 2 49 0 0 158 (55, [none, none, some (.ref b13)], [], h', 0, 0) (hQo (va_rf q.1) q.1 7 q.2 S.1 h0) := by
      have hd := hB39
      intro h40 hR41 f42 e43
      refine am_steps ok_De_confirm 1 (x' := (56, [none, none, some (.ref b13)], [.ref b13], h40, 0, 0)) rfl (Nat.le_of_ble_eq_true rfl) (Nat.le_of_ble_eq_true rfl) ?_
      cases hd; exact am_ret ok_De_confirm rfl (Nat.le_of_ble_eq_true rfl) (Nat.le_of_ble_eq_true rfl) ⟨rfl, (fun _ hz => by cases hz; exact ((hk16.up e26).up e43)), hR41, f42, ((hE.rf.tr e26).tr e43)⟩
    clear hB39; have hd := hA38; clear hA38
    refine am_if (fun hc44 => ?_) (fun hc44 => ?_)
    · rw [if_pos hc44] at hd
      refine am_drop 0 ?_
      refine am_drop 1 ?_
      cases hd; exact K37 h22 hR24 f27 hE.rf
    · rw [if_neg hc44] at hd
      refine am_steps ok_De_confirm 1 (x' := (40, [some (.ref 20), some (.ref 2), some (.ref b13)], [.ref 20], h22, 0, 0)) rfl (Nat.le_of_ble_eq_true rfl) (Nat.le_of_ble_eq_true rfl) ?_
      refine hr_get ok_De_confirm rfl hR24 (kd := 5) (hs_k hR24 (a := 20) rfl) rfl (Nat.le_of_ble_eq_true rfl) (Nat.le_of_ble_eq_true rfl) (v := .ref 16) (congrArg va_rf (hR24.2.2.2.2.1 (501, 20, 16) (by decide))) (pc' := 43) rfl (Nat.le_of_ble_eq_true rfl) (Nat.le_of_ble_eq_true rfl) ?_
      refine am_steps ok_De_confirm 1 (x' := (44, [some (.ref 20), some (.ref 2), some (.ref b13)], [.ref b13, .ref 16], h22, 0, 0)) rfl (Nat.le_of_ble_eq_true rfl) (Nat.le_of_ble_eq_true rfl) ?_
      obtain ⟨q45, hq46, hd47⟩ := Option.bind_eq_some_iff.mp hd; clear hd; have hd := hd47; clear hd47
      refine ar_cv ok_De_confirm hk_Qu_leave rfl rfl (As := [.ref b13]) (ad := 16) (rest := []) rfl rfl (hR24.ob (hs_k hR24 (a := 16) rfl) (Nat.le_of_ble_eq_true rfl)) (Nat.le_of_ble_eq_true rfl) (c_Qu_leave (some b13) q17 h22 hR24 (fun _ hz => by cases hz; exact (hk16.up e26)) q45 hq46) (Nat.le_of_ble_eq_true rfl) (Nat.le_of_ble_eq_true rfl) (Nat.le_of_ble_eq_true rfl) (Nat.le_of_ble_eq_true rfl) (pc' := 47) rfl (fun r48 h50 z49 => ?_)
      obtain ⟨rfl, hR52, g53, e54⟩ := z49
      have f55 := hF.tr f27 g53
      show am_S _ _ _ _ _ _ _ (47, [some (.ref 20), some (.ref 2), some (.ref b13)], [], h50, 0, 0) _
      refine am_steps ok_De_confirm 1 (x' := (48, [some (.ref 20), some (.ref 2), some (.ref b13)], [.ref 20], h50, 0, 0)) rfl (Nat.le_of_ble_eq_true rfl) (Nat.le_of_ble_eq_true rfl) ?_
      refine hr_get ok_De_confirm rfl hR52 (kd := 5) (hs_k hR52 (a := 20) rfl) rfl (Nat.le_of_ble_eq_true rfl) (Nat.le_of_ble_eq_true rfl) (v := .ref 16) (congrArg va_rf (hR52.2.2.2.2.1 (501, 20, 16) (by decide))) (pc' := 51) rfl (Nat.le_of_ble_eq_true rfl) (Nat.le_of_ble_eq_true rfl) ?_
      refine am_steps ok_De_confirm 1 (x' := (52, [some (.ref 20), some (.ref 2), some (.ref b13)], [.ref b13, .ref 16], h50, 0, 0)) rfl (Nat.le_of_ble_eq_true rfl) (Nat.le_of_ble_eq_true rfl) ?_
      obtain ⟨q56, hq57, hd58⟩ := Option.bind_eq_some_iff.mp hd; clear hd; have hd := hd58; clear hd58
      refine ar_cv ok_De_confirm hk_Qu_come rfl rfl (As := [.ref b13]) (ad := 16) (rest := []) rfl rfl (hR52.ob (hs_k hR52 (a := 16) rfl) (Nat.le_of_ble_eq_true rfl)) (Nat.le_of_ble_eq_true rfl) (c_Qu_come b13 q45 h50 hR52 ((hk16.up e26).up e54) q56 hq57) (Nat.le_of_ble_eq_true rfl) (Nat.le_of_ble_eq_true rfl) (Nat.le_of_ble_eq_true rfl) (Nat.le_of_ble_eq_true rfl) (pc' := 55) rfl (fun r59 h61 z60 => ?_)
      obtain ⟨rfl, hR63, g64, e65⟩ := z60
      have f66 := hF.tr f55 g64
      show am_S _ _ _ _ _ _ _ (55, [some (.ref 20), some (.ref 2), some (.ref b13)], [], h61, 0, 0) _
      refine am_drop 0 ?_
      refine am_drop 1 ?_
      cases hd; exact K37 h61 hR63 f66 (e54.tr e65)
def h_AbstractCollection_init (a : Nat) (S : hS) : Option (hS) := some S
set_option maxHeartbeats 4000000 in
set_option maxRecDepth 100000 in
theorem c_AbstractCollection_init (a : Nat) (S : hS) (h0 : am_H) (hR : RH S h0) (ha : hK S.1 a 13) (q : hS) (hd : h_AbstractCollection_init a S = some q) : am_Me am_Pr none 1 30 0 0 230 [.ref a] h0 (hQv q S.1 h0) := by
  refine am_enter (d := hd_AbstractCollection_init) rfl (by decide +kernel) (Nat.le_of_ble_eq_true rfl) ?_
  show am_S _ _ _ _ _ _ _ (0, [some (.ref a)], [], h0, 0, 0) _
  unfold h_AbstractCollection_init at hd
  refine am_steps ok_AbstractCollection_init 1 (x' := (1, [some (.ref a)], [.ref a], h0, 0, 0)) rfl (Nat.le_of_ble_eq_true rfl) (Nat.le_of_ble_eq_true rfl) ?_
  refine am_steps ok_AbstractCollection_init 1 (x' := (4, [some (.ref a)], [], h0, 0, 0)) rfl (Nat.le_of_ble_eq_true rfl) (Nat.le_of_ble_eq_true rfl) ?_
  cases hd; exact am_ret ok_AbstractCollection_init rfl (Nat.le_of_ble_eq_true rfl) (Nat.le_of_ble_eq_true rfl) ⟨rfl, hR, hF.rf, hE.rf⟩
def h_AbstractList_init (a : Nat) (S : hS) : Option (hS) := (h_AbstractCollection_init a S).bind fun q1 => (some (hpI q1 1302 a 0))
set_option maxHeartbeats 4000000 in
set_option maxRecDepth 100000 in
theorem c_AbstractList_init (a : Nat) (S : hS) (h0 : am_H) (hR : RH S h0) (ha : hK S.1 a 13) (q : hS) (hd : h_AbstractList_init a S = some q) : am_Me am_Pr none 2 50 0 0 229 [.ref a] h0 (hQv q S.1 h0) := by
  refine am_enter (d := hd_AbstractList_init) rfl (by decide +kernel) (Nat.le_of_ble_eq_true rfl) ?_
  show am_S _ _ _ _ _ _ _ (0, [some (.ref a)], [], h0, 0, 0) _
  unfold h_AbstractList_init at hd
  refine am_steps ok_AbstractList_init 1 (x' := (1, [some (.ref a)], [.ref a], h0, 0, 0)) rfl (Nat.le_of_ble_eq_true rfl) (Nat.le_of_ble_eq_true rfl) ?_
  obtain ⟨q1, hq2, hd3⟩ := Option.bind_eq_some_iff.mp hd; clear hd; have hd := hd3; clear hd3
  refine am_call ok_AbstractList_init hk_AbstractCollection_init rfl (args' := [.ref a]) (rest := []) rfl (c_AbstractCollection_init a S h0 hR ha q1 hq2) (Nat.le_of_ble_eq_true rfl) (Nat.le_of_ble_eq_true rfl) (Nat.le_of_ble_eq_true rfl) (Nat.le_of_ble_eq_true rfl) (fun r4 h6 z5 => ?_)
  obtain ⟨rfl, hR8, g9, e10⟩ := z5
  have f11 := hF.tr hF.rf g9
  show am_S _ _ _ _ _ _ _ (4, [some (.ref a)], [], h6, 0, 0) _
  refine am_steps ok_AbstractList_init 2 (x' := (6, [some (.ref a)], [.int 0, .ref a], h6, 0, 0)) rfl (Nat.le_of_ble_eq_true rfl) (Nat.le_of_ble_eq_true rfl) ?_
  refine hr_put ok_AbstractList_init rfl hR8 (kd := 13) (ha.up e10) rfl (Nat.le_of_ble_eq_true rfl) (Nat.le_of_ble_eq_true rfl) rfl (S' := (hpI q1 1302 a 0)) rfl (hWT.up hR8.2.2 rfl rfl rfl) (pc' := 9) rfl (Nat.le_of_ble_eq_true rfl) (Nat.le_of_ble_eq_true rfl) (fun h12 hR13 g14 => ?_)
  have f15 := hF.tr f11 g14
  cases hd; exact am_ret ok_AbstractList_init rfl (Nat.le_of_ble_eq_true rfl) (Nat.le_of_ble_eq_true rfl) ⟨rfl, hR13, f15, (hE.rf.tr e10)⟩
def h_AL13_init (a : Nat) (S : hS) : Option (hS) := (h_AbstractList_init a S).bind fun q1 => (some (hpR q1 1300 a (some (am_M + 1))))
set_option maxHeartbeats 4000000 in
set_option maxRecDepth 100000 in
theorem c_AL13_init (a : Nat) (S : hS) (h0 : am_H) (hR : RH S h0) (ha : hK S.1 a 13) (q : hS) (hd : h_AL13_init a S = some q) : am_Me am_Pr none 3 70 0 0 228 [.ref a] h0 (hQv q S.1 h0) := by
  refine am_enter (d := hd_AL_init) rfl (by decide +kernel) (Nat.le_of_ble_eq_true rfl) ?_
  show am_S _ _ _ _ _ _ _ (0, [some (.ref a)], [], h0, 0, 0) _
  unfold h_AL13_init at hd
  refine am_steps ok_AL_init 1 (x' := (1, [some (.ref a)], [.ref a], h0, 0, 0)) rfl (Nat.le_of_ble_eq_true rfl) (Nat.le_of_ble_eq_true rfl) ?_
  obtain ⟨q1, hq2, hd3⟩ := Option.bind_eq_some_iff.mp hd; clear hd; have hd := hd3; clear hd3
  refine am_call ok_AL_init hk_AbstractList_init rfl (args' := [.ref a]) (rest := []) rfl (c_AbstractList_init a S h0 hR ha q1 hq2) (Nat.le_of_ble_eq_true rfl) (Nat.le_of_ble_eq_true rfl) (Nat.le_of_ble_eq_true rfl) (Nat.le_of_ble_eq_true rfl) (fun r4 h6 z5 => ?_)
  obtain ⟨rfl, hR8, g9, e10⟩ := z5
  have f11 := hF.tr hF.rf g9
  show am_S _ _ _ _ _ _ _ (4, [some (.ref a)], [], h6, 0, 0) _
  refine am_steps ok_AL_init 1 (x' := (5, [some (.ref a)], [.ref a], h6, 0, 0)) rfl (Nat.le_of_ble_eq_true rfl) (Nat.le_of_ble_eq_true rfl) ?_
  refine am_steps ok_AL_init 1 (x' := (8, [some (.ref a)], [.ref (am_M + 1), .ref a], h6, 0, 0)) rfl (Nat.le_of_ble_eq_true rfl) (Nat.le_of_ble_eq_true rfl) ?_
  refine hr_put ok_AL_init rfl hR8 (kd := 13) (ha.up e10) rfl (Nat.le_of_ble_eq_true rfl) (Nat.le_of_ble_eq_true rfl) rfl (S' := (hpR q1 1300 a (some (am_M + 1)))) rfl (hWT.ref hR8.2.2 (by decide) (fun _ hz => by cases hz; exact (Or.inl rfl))) (pc' := 11) rfl (Nat.le_of_ble_eq_true rfl) (Nat.le_of_ble_eq_true rfl) (fun h12 hR13 g14 => ?_)
  have f15 := hF.tr f11 g14
  cases hd; exact am_ret ok_AL_init rfl (Nat.le_of_ble_eq_true rfl) (Nat.le_of_ble_eq_true rfl) ⟨rfl, hR13, f15, (hE.rf.tr e10)⟩
def h_Pa_init (a : Nat) (b : Int32) (c : Int32) (S : hS) : Option (hS) := (hs_al S).bind fun a1 => ((hs_al (hpR (hNew S 26 64) 902 a (some a1))).bind fun a14 => ((h_AL13_init a14 (hNew (hpR (hNew S 26 64) 902 a (some a1)) 13 0)).bind fun q23 => (if c = 0 ∨ c = 1 then (some (hpI (hpI (hpR q23 903 a (some a14)) 900 a b) 901 a c)) else none)))
set_option maxHeartbeats 4000000 in
set_option maxRecDepth 100000 in
theorem c_Pa_init (a : Nat) (b : Int32) (c : Int32) (S : hS) (h0 : am_H) (hR : RH S h0) (ha : hK S.1 a 9) (q : hS) (hd : h_Pa_init a b c S = some q) : am_Me am_Pr none 4 90 2 67 203 [.ref a, .int b, .int c] h0 (hQv q S.1 h0) := by
  refine am_enter (d := hd_Pa_init) rfl (by decide +kernel) (Nat.le_of_ble_eq_true rfl) ?_
  show am_S _ _ _ _ _ _ _ (0, [some (.ref a), some (.int b), some (.int c)], [], h0, 0, 0) _
  unfold h_Pa_init at hd
  refine am_steps ok_Pa_init 1 (x' := (1, [some (.ref a), some (.int b), some (.int c)], [.ref a], h0, 0, 0)) rfl (Nat.le_of_ble_eq_true rfl) (Nat.le_of_ble_eq_true rfl) ?_
  refine am_steps ok_Pa_init 3 (x' := (7, [some (.ref a), some (.int b), some (.int c)], [.int 64, .ref a], h0, 0, 0)) rfl (Nat.le_of_ble_eq_true rfl) (Nat.le_of_ble_eq_true rfl) ?_
  obtain ⟨a1, ha2, hd3⟩ := Option.bind_eq_some_iff.mp hd; clear hd; have hd := hd3; clear hd3
  refine hr_anew ok_Pa_init rfl hR (kd := 26) (by decide) rfl (by decide) (N := 64) (by decide +kernel) (Nat.le_of_ble_eq_true rfl) (hs_al1 ha2) (hs_al2 ha2) (pc' := 10) rfl (k' := 1) rfl (n' := 64) rfl (Nat.le_of_ble_eq_true rfl) (Nat.le_of_ble_eq_true rfl) (fun h4 hR5 g6 => ?_)
  have f7 := hF.tr hF.rf g6
  have e8 := hNew_E S 26 64
  have hk9 := hs_al3 ha2 (hNew_K S 26 64)
  refine hr_put ok_Pa_init rfl hR5 (kd := 9) (ha.up e8) rfl (Nat.le_of_ble_eq_true rfl) (Nat.le_of_ble_eq_true rfl) rfl (S' := (hpR (hNew S 26 64) 902 a (some a1))) rfl (hWT.ref hR5.2.2 (by decide) (fun _ hz => by cases hz; exact hk9)) (pc' := 13) rfl (Nat.le_of_ble_eq_true rfl) (Nat.le_of_ble_eq_true rfl) (fun h10 hR11 g12 => ?_)
  have f13 := hF.tr f7 g12
  refine am_steps ok_Pa_init 1 (x' := (14, [some (.ref a), some (.int b), some (.int c)], [.ref a], h10, 1, 64)) rfl (Nat.le_of_ble_eq_true rfl) (Nat.le_of_ble_eq_true rfl) ?_
  obtain ⟨a14, ha15, hd16⟩ := Option.bind_eq_some_iff.mp hd; clear hd; have hd := hd16; clear hd16
  refine hr_new ok_Pa_init rfl hR11 (kd := 13) rfl (Nat.le_of_ble_eq_true rfl) (Nat.le_of_ble_eq_true rfl) (hs_al1 ha15) (hs_al2 ha15) (pc' := 17) rfl (k' := 2) rfl (n' := 67) rfl (Nat.le_of_ble_eq_true rfl) (Nat.le_of_ble_eq_true rfl) (fun h17 hR18 g19 => ?_)
  have f20 := hF.tr f13 g19
  have e21 := hNew_E (hpR (hNew S 26 64) 902 a (some a1)) 13 0
  have hk22 := hs_al3 ha15 (hNew_K (hpR (hNew S 26 64) 902 a (some a1)) 13 0)
  refine am_steps ok_Pa_init 1 (x' := (18, [some (.ref a), some (.int b), some (.int c)], [.ref a14, .ref a14, .ref a], h17, 2, 67)) rfl (Nat.le_of_ble_eq_true rfl) (Nat.le_of_ble_eq_true rfl) ?_
  obtain ⟨q23, hq24, hd25⟩ := Option.bind_eq_some_iff.mp hd; clear hd; have hd := hd25; clear hd25
  refine am_call ok_Pa_init hk_AL_init rfl (args' := [.ref a14]) (rest := [.ref a14, .ref a]) rfl (c_AL13_init a14 (hNew (hpR (hNew S 26 64) 902 a (some a1)) 13 0) h17 hR18 hk22 q23 hq24) (Nat.le_of_ble_eq_true rfl) (Nat.le_of_ble_eq_true rfl) (Nat.le_of_ble_eq_true rfl) (Nat.le_of_ble_eq_true rfl) (fun r26 h28 z27 => ?_)
  obtain ⟨rfl, hR30, g31, e32⟩ := z27
  have f33 := hF.tr f20 g31
  show am_S _ _ _ _ _ _ _ (21, [some (.ref a), some (.int b), some (.int c)], [.ref a14, .ref a], h28, 2, 67) _
  refine hr_put ok_Pa_init rfl hR30 (kd := 9) (((ha.up e8).up e21).up e32) rfl (Nat.le_of_ble_eq_true rfl) (Nat.le_of_ble_eq_true rfl) rfl (S' := (hpR q23 903 a (some a14))) rfl (hWT.ref hR30.2.2 (by decide) (fun _ hz => by cases hz; exact (hk22.up e32))) (pc' := 24) rfl (Nat.le_of_ble_eq_true rfl) (Nat.le_of_ble_eq_true rfl) (fun h34 hR35 g36 => ?_)
  have f37 := hF.tr f33 g36
  refine am_steps ok_Pa_init 2 (x' := (26, [some (.ref a), some (.int b), some (.int c)], [.int b, .ref a], h34, 2, 67)) rfl (Nat.le_of_ble_eq_true rfl) (Nat.le_of_ble_eq_true rfl) ?_
  refine hr_put ok_Pa_init rfl hR35 (kd := 9) (((ha.up e8).up e21).up e32) rfl (Nat.le_of_ble_eq_true rfl) (Nat.le_of_ble_eq_true rfl) rfl (S' := (hpI (hpR q23 903 a (some a14)) 900 a b)) rfl (hWT.up hR35.2.2 rfl rfl rfl) (pc' := 29) rfl (Nat.le_of_ble_eq_true rfl) (Nat.le_of_ble_eq_true rfl) (fun h38 hR39 g40 => ?_)
  have f41 := hF.tr f37 g40
  refine am_steps ok_Pa_init 2 (x' := (31, [some (.ref a), some (.int b), some (.int c)], [.int c, .ref a], h38, 2, 67)) rfl (Nat.le_of_ble_eq_true rfl) (Nat.le_of_ble_eq_true rfl) ?_
  split at hd
  · rename_i hz42
    refine hr_put ok_Pa_init rfl hR39 (kd := 9) (((ha.up e8).up e21).up e32) rfl (Nat.le_of_ble_eq_true rfl) (Nat.le_of_ble_eq_true rfl) (hs_pkz hz42) (S' := (hpI (hpI (hpR q23 903 a (some a14)) 900 a b) 901 a c)) rfl (hWT.up hR39.2.2 rfl rfl rfl) (pc' := 34) rfl (Nat.le_of_ble_eq_true rfl) (Nat.le_of_ble_eq_true rfl) (fun h43 hR44 g45 => ?_)
    have f46 := hF.tr f41 g45
    cases hd; exact am_ret ok_Pa_init rfl (Nat.le_of_ble_eq_true rfl) (Nat.le_of_ble_eq_true rfl) ⟨rfl, hR44, f46, (((hE.rf.tr e8).tr e21).tr e32)⟩
  · cases hd
def h_Bo_addParticipant (a : Int32) (S : hS) : Option (hS) := if (256 : Int32) ≤ (S.2.1 401 10) then (some S) else ((hs_al S).bind fun a2 => ((h_Pa_init a2 a 0 (hNew S 9 0)).bind fun q11 => ((am_ix (S.2.1 401 10) 256).bind fun j22 => (some (hpI (hpQ q11 11 j22 (some a2)) 401 10 ((q11.2.1 401 10) + 1))))))
set_option maxHeartbeats 4000000 in
set_option maxRecDepth 100000 in
theorem c_Bo_addParticipant (a : Int32) (S : hS) (h0 : am_H) (hR : RH S h0)  (q : hS) (hd : h_Bo_addParticipant a S = some q) : am_Me am_Pr none 5 112 3 72 110 [.ref 10, .int a] h0 (hQv q S.1 h0) := by
  refine am_enter (d := hd_Bo_addParticipant) rfl (by decide +kernel) (Nat.le_of_ble_eq_true rfl) ?_
  show am_S _ _ _ _ _ _ _ (0, [some (.ref 10), some (.int a)], [], h0, 0, 0) _
  unfold h_Bo_addParticipant at hd
  refine am_steps ok_Bo_addParticipant 1 (x' := (1, [some (.ref 10), some (.int a)], [.ref 10], h0, 0, 0)) rfl (Nat.le_of_ble_eq_true rfl) (Nat.le_of_ble_eq_true rfl) ?_
  refine hr_get ok_Bo_addParticipant rfl hR (kd := 4) (hs_k hR (a := 10) rfl) rfl (Nat.le_of_ble_eq_true rfl) (Nat.le_of_ble_eq_true rfl) (v := .int (S.2.1 401 10)) rfl (pc' := 4) rfl (Nat.le_of_ble_eq_true rfl) (Nat.le_of_ble_eq_true rfl) ?_
  refine am_steps ok_Bo_addParticipant 2 (x' := (if (256 : Int32) ≤ (S.2.1 401 10) then 38 else 10, [some (.ref 10), some (.int a)], [], h0, 0, 0)) rfl (Nat.le_of_ble_eq_true rfl) (Nat.le_of_ble_eq_true rfl) ?_
  refine am_if (fun hc1 => ?_) (fun hc1 => ?_)
  · rw [if_pos hc1] at hd
    cases hd; exact am_ret ok_Bo_addParticipant rfl (Nat.le_of_ble_eq_true rfl) (Nat.le_of_ble_eq_true rfl) ⟨rfl, hR, hF.rf, hE.rf⟩
  · rw [if_neg hc1] at hd
    refine am_steps ok_Bo_addParticipant 1 (x' := (11, [some (.ref 10), some (.int a)], [.ref 10], h0, 0, 0)) rfl (Nat.le_of_ble_eq_true rfl) (Nat.le_of_ble_eq_true rfl) ?_
    refine hr_get ok_Bo_addParticipant rfl hR (kd := 4) (hs_k hR (a := 10) rfl) rfl (Nat.le_of_ble_eq_true rfl) (Nat.le_of_ble_eq_true rfl) (v := .ref 11) (congrArg va_rf (hR.2.2.2.2.1 (400, 10, 11) (by decide))) (pc' := 14) rfl (Nat.le_of_ble_eq_true rfl) (Nat.le_of_ble_eq_true rfl) ?_
    refine am_steps ok_Bo_addParticipant 1 (x' := (15, [some (.ref 10), some (.int a)], [.ref 10, .ref 11], h0, 0, 0)) rfl (Nat.le_of_ble_eq_true rfl) (Nat.le_of_ble_eq_true rfl) ?_
    refine hr_get ok_Bo_addParticipant rfl hR (kd := 4) (hs_k hR (a := 10) rfl) rfl (Nat.le_of_ble_eq_true rfl) (Nat.le_of_ble_eq_true rfl) (v := .int (S.2.1 401 10)) rfl (pc' := 18) rfl (Nat.le_of_ble_eq_true rfl) (Nat.le_of_ble_eq_true rfl) ?_
    obtain ⟨a2, ha3, hd4⟩ := Option.bind_eq_some_iff.mp hd; clear hd; have hd := hd4; clear hd4
    refine hr_new ok_Bo_addParticipant rfl hR (kd := 9) rfl (Nat.le_of_ble_eq_true rfl) (Nat.le_of_ble_eq_true rfl) (hs_al1 ha3) (hs_al2 ha3) (pc' := 21) rfl (k' := 1) rfl (n' := 5) rfl (Nat.le_of_ble_eq_true rfl) (Nat.le_of_ble_eq_true rfl) (fun h5 hR6 g7 => ?_)
    have f8 := hF.tr hF.rf g7
    have e9 := hNew_E S 9 0
    have hk10 := hs_al3 ha3 (hNew_K S 9 0)
    refine am_steps ok_Bo_addParticipant 3 (x' := (24, [some (.ref 10), some (.int a)], [.int 0, .int a, .ref a2, .ref a2, .int (S.2.1 401 10), .ref 11], h5, 1, 5)) rfl (Nat.le_of_ble_eq_true rfl) (Nat.le_of_ble_eq_true rfl) ?_
    obtain ⟨q11, hq12, hd13⟩ := Option.bind_eq_some_iff.mp hd; clear hd; have hd := hd13; clear hd13
    refine am_call ok_Bo_addParticipant hk_Pa_init rfl (args' := [.ref a2, .int a, .int 0]) (rest := [.ref a2, .int (S.2.1 401 10), .ref 11]) rfl (c_Pa_init a2 a 0 (hNew S 9 0) h5 hR6 hk10 q11 hq12) (Nat.le_of_ble_eq_true rfl) (Nat.le_of_ble_eq_true rfl) (Nat.le_of_ble_eq_true rfl) (Nat.le_of_ble_eq_true rfl) (fun r14 h16 z15 => ?_)
    obtain ⟨rfl, hR18, g19, e20⟩ := z15
    have f21 := hF.tr f8 g19
    show am_S _ _ _ _ _ _ _ (27, [some (.ref 10), some (.int a)], [.ref a2, .int (S.2.1 401 10), .ref 11], h16, 3, 72) _
    obtain ⟨j22, hx23, hd24⟩ := Option.bind_eq_some_iff.mp hd; clear hd; have hd := hd24; clear hd24
    refine hr_aast ok_Bo_addParticipant rfl hR18 (kd := 24) (hs_k hR18 (a := 11) rfl) (by decide) (hs_ln hR18 rfl) hx23 (o := (some a2)) (fun _ hz => by cases hz; exact (hk10.up e20)) (pc' := 28) rfl (Nat.le_of_ble_eq_true rfl) (Nat.le_of_ble_eq_true rfl) (fun h25 hR26 g27 => ?_)
    have f28 := hF.tr f21 g27
    refine am_steps ok_Bo_addParticipant 2 (x' := (30, [some (.ref 10), some (.int a)], [.ref 10, .ref 10], h25, 3, 72)) rfl (Nat.le_of_ble_eq_true rfl) (Nat.le_of_ble_eq_true rfl) ?_
    refine hr_get ok_Bo_addParticipant rfl hR26 (kd := 4) (hs_k hR26 (a := 10) rfl) rfl (Nat.le_of_ble_eq_true rfl) (Nat.le_of_ble_eq_true rfl) (v := .int (q11.2.1 401 10)) rfl (pc' := 33) rfl (Nat.le_of_ble_eq_true rfl) (Nat.le_of_ble_eq_true rfl) ?_
    refine am_steps ok_Bo_addParticipant 2 (x' := (35, [some (.ref 10), some (.int a)], [.int ((q11.2.1 401 10) + 1), .ref 10], h25, 3, 72)) rfl (Nat.le_of_ble_eq_true rfl) (Nat.le_of_ble_eq_true rfl) ?_
    refine hr_put ok_Bo_addParticipant rfl hR26 (kd := 4) (hs_k hR26 (a := 10) rfl) rfl (Nat.le_of_ble_eq_true rfl) (Nat.le_of_ble_eq_true rfl) rfl (S' := (hpI (hpQ q11 11 j22 (some a2)) 401 10 ((q11.2.1 401 10) + 1))) rfl (hWT.up hR26.2.2 rfl rfl rfl) (pc' := 38) rfl (Nat.le_of_ble_eq_true rfl) (Nat.le_of_ble_eq_true rfl) (fun h29 hR30 g31 => ?_)
    have f32 := hF.tr f28 g31
    cases hd; exact am_ret ok_Bo_addParticipant rfl (Nat.le_of_ble_eq_true rfl) (Nat.le_of_ble_eq_true rfl) ⟨rfl, hR30, f32, ((hE.rf.tr e9).tr e20)⟩
def h_As_init (a : Nat) (b : Int32) (c : Int32) (d : Int64) (e : Int32) (S : hS) : Option (hS) := if c = 0 ∨ c = 1 then (some (hpI (hpL (hpI (hpI S 300 a b) 301 a c) 302 a d) 303 a e)) else none
set_option maxHeartbeats 4000000 in
set_option maxRecDepth 100000 in
theorem c_As_init (a : Nat) (b : Int32) (c : Int32) (d : Int64) (e : Int32) (S : hS) (h0 : am_H) (hR : RH S h0) (ha : hK S.1 a 3) (q : hS) (hd : h_As_init a b c d e S = some q) : am_Me am_Pr none 1 30 0 0 105 [.ref a, .int b, .int c, .long d, .int e] h0 (hQv q S.1 h0) := by
  refine am_enter (d := hd_As_init) rfl (by decide +kernel) (Nat.le_of_ble_eq_true rfl) ?_
  show am_S _ _ _ _ _ _ _ (0, [some (.ref a), some (.int b), some (.int c), some (.long d), none, some (.int e)], [], h0, 0, 0) _
  unfold h_As_init at hd
  refine am_steps ok_As_init 1 (x' := (1, [some (.ref a), some (.int b), some (.int c), some (.long d), none, some (.int e)], [.ref a], h0, 0, 0)) rfl (Nat.le_of_ble_eq_true rfl) (Nat.le_of_ble_eq_true rfl) ?_
  refine am_steps ok_As_init 3 (x' := (6, [some (.ref a), some (.int b), some (.int c), some (.long d), none, some (.int e)], [.int b, .ref a], h0, 0, 0)) rfl (Nat.le_of_ble_eq_true rfl) (Nat.le_of_ble_eq_true rfl) ?_
  refine hr_put ok_As_init rfl hR (kd := 3) ha rfl (Nat.le_of_ble_eq_true rfl) (Nat.le_of_ble_eq_true rfl) rfl (S' := (hpI S 300 a b)) rfl (hWT.up hR.2.2 rfl rfl rfl) (pc' := 9) rfl (Nat.le_of_ble_eq_true rfl) (Nat.le_of_ble_eq_true rfl) (fun h1 hR2 g3 => ?_)
  have f4 := hF.tr hF.rf g3
  refine am_steps ok_As_init 2 (x' := (11, [some (.ref a), some (.int b), some (.int c), some (.long d), none, some (.int e)], [.int c, .ref a], h1, 0, 0)) rfl (Nat.le_of_ble_eq_true rfl) (Nat.le_of_ble_eq_true rfl) ?_
  split at hd
  · rename_i hz5
    refine hr_put ok_As_init rfl hR2 (kd := 3) ha rfl (Nat.le_of_ble_eq_true rfl) (Nat.le_of_ble_eq_true rfl) (hs_pkz hz5) (S' := (hpI (hpI S 300 a b) 301 a c)) rfl (hWT.up hR2.2.2 rfl rfl rfl) (pc' := 14) rfl (Nat.le_of_ble_eq_true rfl) (Nat.le_of_ble_eq_true rfl) (fun h6 hR7 g8 => ?_)
    have f9 := hF.tr f4 g8
    refine am_steps ok_As_init 2 (x' := (16, [some (.ref a), some (.int b), some (.int c), some (.long d), none, some (.int e)], [.long d, .ref a], h6, 0, 0)) rfl (Nat.le_of_ble_eq_true rfl) (Nat.le_of_ble_eq_true rfl) ?_
    refine hr_put ok_As_init rfl hR7 (kd := 3) ha rfl (Nat.le_of_ble_eq_true rfl) (Nat.le_of_ble_eq_true rfl) rfl (S' := (hpL (hpI (hpI S 300 a b) 301 a c) 302 a d)) rfl (hWT.up hR7.2.2 rfl rfl rfl) (pc' := 19) rfl (Nat.le_of_ble_eq_true rfl) (Nat.le_of_ble_eq_true rfl) (fun h10 hR11 g12 => ?_)
    have f13 := hF.tr f9 g12
    refine am_steps ok_As_init 2 (x' := (22, [some (.ref a), some (.int b), some (.int c), some (.long d), none, some (.int e)], [.int e, .ref a], h10, 0, 0)) rfl (Nat.le_of_ble_eq_true rfl) (Nat.le_of_ble_eq_true rfl) ?_
    refine hr_put ok_As_init rfl hR11 (kd := 3) ha rfl (Nat.le_of_ble_eq_true rfl) (Nat.le_of_ble_eq_true rfl) rfl (S' := (hpI (hpL (hpI (hpI S 300 a b) 301 a c) 302 a d) 303 a e)) rfl (hWT.up hR11.2.2 rfl rfl rfl) (pc' := 25) rfl (Nat.le_of_ble_eq_true rfl) (Nat.le_of_ble_eq_true rfl) (fun h14 hR15 g16 => ?_)
    have f17 := hF.tr f13 g16
    cases hd; exact am_ret ok_As_init rfl (Nat.le_of_ble_eq_true rfl) (Nat.le_of_ble_eq_true rfl) ⟨rfl, hR15, f17, hE.rf⟩
  · cases hd
def h_Bo_addAsset (a : Nat) (S : hS) : Option (hS) := if ((S.2.1 403 10) : Int32) < 64 then ((am_ix (S.2.1 403 10) 64).bind fun j2 => ((if ¬ ((S.2.1 404 10) : Int32) = (-1) then (some (hpQ S 12 j2 (some a))) else (if ¬ ((S.2.1 301 a) : Int32) = 0 then (some (hpQ S 12 j2 (some a))) else (some (hpI (hpQ S 12 j2 (some a)) 404 10 (S.2.1 403 10))))).bind fun (u9 : hS) => (some (hpI u9 403 10 ((u9.2.1 403 10) + 1))))) else (some S)
set_option maxHeartbeats 4000000 in
set_option maxRecDepth 100000 in
theorem c_Bo_addAsset (a : Nat) (S : hS) (h0 : am_H) (hR : RH S h0) (ha : hK S.1 a 3) (q : hS) (hd : h_Bo_addAsset a S = some q) : am_Me am_Pr none 0 0 0 0 111 [.ref 10, .ref a] h0 (hQv q S.1 h0) := by
  refine am_enter (d := hd_Bo_addAsset) rfl (by decide +kernel) (Nat.le_of_ble_eq_true rfl) ?_
  show am_S _ _ _ _ _ _ _ (0, [some (.ref 10), some (.ref a)], [], h0, 0, 0) _
  unfold h_Bo_addAsset at hd
  refine am_steps ok_Bo_addAsset 1 (x' := (1, [some (.ref 10), some (.ref a)], [.ref 10], h0, 0, 0)) rfl (Nat.le_of_ble_eq_true rfl) (Nat.le_of_ble_eq_true rfl) ?_
  refine hr_get ok_Bo_addAsset rfl hR (kd := 4) (hs_k hR (a := 10) rfl) rfl (Nat.le_of_ble_eq_true rfl) (Nat.le_of_ble_eq_true rfl) (v := .int (S.2.1 403 10)) rfl (pc' := 4) rfl (Nat.le_of_ble_eq_true rfl) (Nat.le_of_ble_eq_true rfl) ?_
  refine am_steps ok_Bo_addAsset 2 (x' := (if ((S.2.1 403 10) : Int32) < 64 then 10 else 9, [some (.ref 10), some (.ref a)], [], h0, 0, 0)) rfl (Nat.le_of_ble_eq_true rfl) (Nat.le_of_ble_eq_true rfl) ?_
  refine am_if (fun hc1 => ?_) (fun hc1 => ?_)
  · rw [if_pos hc1] at hd
    refine am_steps ok_Bo_addAsset 1 (x' := (11, [some (.ref 10), some (.ref a)], [.ref 10], h0, 0, 0)) rfl (Nat.le_of_ble_eq_true rfl) (Nat.le_of_ble_eq_true rfl) ?_
    refine hr_get ok_Bo_addAsset rfl hR (kd := 4) (hs_k hR (a := 10) rfl) rfl (Nat.le_of_ble_eq_true rfl) (Nat.le_of_ble_eq_true rfl) (v := .ref 12) (congrArg va_rf (hR.2.2.2.2.1 (402, 10, 12) (by decide))) (pc' := 14) rfl (Nat.le_of_ble_eq_true rfl) (Nat.le_of_ble_eq_true rfl) ?_
    refine am_steps ok_Bo_addAsset 1 (x' := (15, [some (.ref 10), some (.ref a)], [.ref 10, .ref 12], h0, 0, 0)) rfl (Nat.le_of_ble_eq_true rfl) (Nat.le_of_ble_eq_true rfl) ?_
    refine hr_get ok_Bo_addAsset rfl hR (kd := 4) (hs_k hR (a := 10) rfl) rfl (Nat.le_of_ble_eq_true rfl) (Nat.le_of_ble_eq_true rfl) (v := .int (S.2.1 403 10)) rfl (pc' := 18) rfl (Nat.le_of_ble_eq_true rfl) (Nat.le_of_ble_eq_true rfl) ?_
    refine am_steps ok_Bo_addAsset 1 (x' := (19, [some (.ref 10), some (.ref a)], [.ref a, .int (S.2.1 403 10), .ref 12], h0, 0, 0)) rfl (Nat.le_of_ble_eq_true rfl) (Nat.le_of_ble_eq_true rfl) ?_
    obtain ⟨j2, hx3, hd4⟩ := Option.bind_eq_some_iff.mp hd; clear hd; have hd := hd4; clear hd4
    refine hr_aast ok_Bo_addAsset rfl hR (kd := 25) (hs_k hR (a := 12) rfl) (by decide) (hs_ln hR rfl) hx3 (o := (some a)) (fun _ hz => by cases hz; exact ha) (pc' := 20) rfl (Nat.le_of_ble_eq_true rfl) (Nat.le_of_ble_eq_true rfl) (fun h5 hR6 g7 => ?_)
    have f8 := hF.tr hF.rf g7
    refine am_steps ok_Bo_addAsset 1 (x' := (21, [some (.ref 10), some (.ref a)], [.ref 10], h5, 0, 0)) rfl (Nat.le_of_ble_eq_true rfl) (Nat.le_of_ble_eq_true rfl) ?_
    refine hr_get ok_Bo_addAsset rfl hR6 (kd := 4) (hs_k hR6 (a := 10) rfl) rfl (Nat.le_of_ble_eq_true rfl) (Nat.le_of_ble_eq_true rfl) (v := .int (S.2.1 404 10)) rfl (pc' := 24) rfl (Nat.le_of_ble_eq_true rfl) (Nat.le_of_ble_eq_true rfl) ?_
    refine am_steps ok_Bo_addAsset 2 (x' := (if ¬ ((S.2.1 404 10) : Int32) = (-1) then 43 else 28, [some (.ref 10), some (.ref a)], [], h5, 0, 0)) rfl (Nat.le_of_ble_eq_true rfl) (Nat.le_of_ble_eq_true rfl) ?_
    obtain ⟨u9, hA11, hB12⟩ := Option.bind_eq_some_iff.mp hd; clear hd
    have K10 : ∀ h' : am_H, RH u9 h' → hF h0 h' → hE S.1 u9.1 → am_S am_Pr none 0 0 0 0 111 (43, [some (.ref 10), none], [], h', 0, 0) (hQv q S.1 h0) := by
      have hd := hB12
      intro h13 hR14 f15 e16
      refine am_steps ok_Bo_addAsset 2 (x' := (45, [some (.ref 10), none], [.ref 10, .ref 10], h13, 0, 0)) rfl (Nat.le_of_ble_eq_true rfl) (Nat.le_of_ble_eq_true rfl) ?_
      refine hr_get ok_Bo_addAsset rfl hR14 (kd := 4) (hs_k hR14 (a := 10) rfl) rfl (Nat.le_of_ble_eq_true rfl) (Nat.le_of_ble_eq_true rfl) (v := .int (u9.2.1 403 10)) rfl (pc' := 48) rfl (Nat.le_of_ble_eq_true rfl) (Nat.le_of_ble_eq_true rfl) ?_
      refine am_steps ok_Bo_addAsset 2 (x' := (50, [some (.ref 10), none], [.int ((u9.2.1 403 10) + 1), .ref 10], h13, 0, 0)) rfl (Nat.le_of_ble_eq_true rfl) (Nat.le_of_ble_eq_true rfl) ?_
      refine hr_put ok_Bo_addAsset rfl hR14 (kd := 4) (hs_k hR14 (a := 10) rfl) rfl (Nat.le_of_ble_eq_true rfl) (Nat.le_of_ble_eq_true rfl) rfl (S' := (hpI u9 403 10 ((u9.2.1 403 10) + 1))) rfl (hWT.up hR14.2.2 rfl rfl rfl) (pc' := 53) rfl (Nat.le_of_ble_eq_true rfl) (Nat.le_of_ble_eq_true rfl) (fun h17 hR18 g19 => ?_)
      have f20 := hF.tr f15 g19
      cases hd; exact am_ret ok_Bo_addAsset rfl (Nat.le_of_ble_eq_true rfl) (Nat.le_of_ble_eq_true rfl) ⟨rfl, hR18, f20, (hE.rf.tr e16)⟩
    clear hB12; have hd := hA11; clear hA11
    refine am_if (fun hc21 => ?_) (fun hc21 => ?_)
    · rw [if_pos hc21] at hd
      refine am_drop 1 ?_
      cases hd; exact K10 h5 hR6 f8 hE.rf
    · rw [if_neg hc21] at hd
      refine am_steps ok_Bo_addAsset 1 (x' := (29, [some (.ref 10), some (.ref a)], [.ref a], h5, 0, 0)) rfl (Nat.le_of_ble_eq_true rfl) (Nat.le_of_ble_eq_true rfl) ?_
      refine hr_get ok_Bo_addAsset rfl hR6 (kd := 3) ha rfl (Nat.le_of_ble_eq_true rfl) (Nat.le_of_ble_eq_true rfl) (v := .int (S.2.1 301 a)) rfl (pc' := 32) rfl (Nat.le_of_ble_eq_true rfl) (Nat.le_of_ble_eq_true rfl) ?_
      refine am_steps ok_Bo_addAsset 1 (x' := (if ¬ ((S.2.1 301 a) : Int32) = 0 then 43 else 35, [some (.ref 10), some (.ref a)], [], h5, 0, 0)) rfl (Nat.le_of_ble_eq_true rfl) (Nat.le_of_ble_eq_true rfl) ?_
      refine am_if (fun hc22 => ?_) (fun hc22 => ?_)
      · rw [if_pos hc22] at hd
        refine am_drop 1 ?_
        cases hd; exact K10 h5 hR6 f8 hE.rf
      · rw [if_neg hc22] at hd
        refine am_steps ok_Bo_addAsset 2 (x' := (37, [some (.ref 10), some (.ref a)], [.ref 10, .ref 10], h5, 0, 0)) rfl (Nat.le_of_ble_eq_true rfl) (Nat.le_of_ble_eq_true rfl) ?_
        refine hr_get ok_Bo_addAsset rfl hR6 (kd := 4) (hs_k hR6 (a := 10) rfl) rfl (Nat.le_of_ble_eq_true rfl) (Nat.le_of_ble_eq_true rfl) (v := .int (S.2.1 403 10)) rfl (pc' := 40) rfl (Nat.le_of_ble_eq_true rfl) (Nat.le_of_ble_eq_true rfl) ?_
        refine hr_put ok_Bo_addAsset rfl hR6 (kd := 4) (hs_k hR6 (a := 10) rfl) rfl (Nat.le_of_ble_eq_true rfl) (Nat.le_of_ble_eq_true rfl) rfl (S' := (hpI (hpQ S 12 j2 (some a)) 404 10 (S.2.1 403 10))) rfl (hWT.up hR6.2.2 rfl rfl rfl) (pc' := 43) rfl (Nat.le_of_ble_eq_true rfl) (Nat.le_of_ble_eq_true rfl) (fun h23 hR24 g25 => ?_)
        have f26 := hF.tr f8 g25
        refine am_drop 1 ?_
        cases hd; exact K10 h23 hR24 f26 hE.rf
  · rw [if_neg hc1] at hd
    cases hd; exact am_ret ok_Bo_addAsset rfl (Nat.le_of_ble_eq_true rfl) (Nat.le_of_ble_eq_true rfl) ⟨rfl, hR, hF.rf, hE.rf⟩
def h_Bo_setCredit (a : Int32) (b : Int64) (S : hS) : Option (hS) := (h_Bo_allCreditIf a b S).bind fun q1 => ((am_ix a 256).bind fun j13 => (((S.2.2.2.2.2.2 11 j13)).bind fun b16 => (if (a : Int32) = 0 then (some (hpL (hpL S 406 10 q1) 904 b16 b)) else (if ((S.2.1 404 10) : Int32) = (-1) then (some (hpL (hpL S 406 10 q1) 904 b16 b)) else ((h_Bo_account a (S.2.1 404 10) (hpL (hpL S 406 10 q1) 904 b16 b)).bind fun q26 => (some (hpL q26.2 1003 q26.1 (-b))))))))
set_option maxHeartbeats 4000000 in
set_option maxRecDepth 100000 in
theorem c_Bo_setCredit (a : Int32) (b : Int64) (S : hS) (h0 : am_H) (hR : RH S h0)  (q : hS) (hd : h_Bo_setCredit a b S = some q) : am_Me am_Pr none 3 75 1 10 127 [.ref 10, .int a, .long b] h0 (hQv q S.1 h0) := by
  refine am_enter (d := hd_Bo_setCredit) rfl (by decide +kernel) (Nat.le_of_ble_eq_true rfl) ?_
  show am_S _ _ _ _ _ _ _ (0, [some (.ref 10), some (.int a), some (.long b), none], [], h0, 0, 0) _
  unfold h_Bo_setCredit at hd
  refine am_steps ok_Bo_setCredit 4 (x' := (4, [some (.ref 10), some (.int a), some (.long b), none], [.long b, .int a, .ref 10, .ref 10], h0, 0, 0)) rfl (Nat.le_of_ble_eq_true rfl) (Nat.le_of_ble_eq_true rfl) ?_
  obtain ⟨q1, hq2, hd3⟩ := Option.bind_eq_some_iff.mp hd; clear hd; have hd := hd3; clear hd3
  refine ar_cv ok_Bo_setCredit hk_Bo_allCreditIf rfl rfl (As := [.int a, .long b]) (ad := 10) (rest := [.ref 10]) rfl rfl (hR.ob (hs_k hR (a := 10) rfl) (Nat.le_of_ble_eq_true rfl)) (Nat.le_of_ble_eq_true rfl) (c_Bo_allCreditIf a b S h0 hR  q1 hq2) (Nat.le_of_ble_eq_true rfl) (Nat.le_of_ble_eq_true rfl) (Nat.le_of_ble_eq_true rfl) (Nat.le_of_ble_eq_true rfl) (pc' := 7) rfl (fun r4 h6 z5 => ?_)
  obtain ⟨rfl, z8⟩ := z5; rw [z8]
  show am_S _ _ _ _ _ _ _ (7, [some (.ref 10), some (.int a), some (.long b), none], [.long q1, .ref 10], h0, 0, 0) _
  refine hr_put ok_Bo_setCredit rfl hR (kd := 4) (hs_k hR (a := 10) rfl) rfl (Nat.le_of_ble_eq_true rfl) (Nat.le_of_ble_eq_true rfl) rfl (S' := (hpL S 406 10 q1)) rfl (hWT.up hR.2.2 rfl rfl rfl) (pc' := 10) rfl (Nat.le_of_ble_eq_true rfl) (Nat.le_of_ble_eq_true rfl) (fun h9 hR10 g11 => ?_)
  have f12 := hF.tr hF.rf g11
  refine am_steps ok_Bo_setCredit 1 (x' := (11, [some (.ref 10), some (.int a), some (.long b), none], [.ref 10], h9, 0, 0)) rfl (Nat.le_of_ble_eq_true rfl) (Nat.le_of_ble_eq_true rfl) ?_
  refine hr_get ok_Bo_setCredit rfl hR10 (kd := 4) (hs_k hR10 (a := 10) rfl) rfl (Nat.le_of_ble_eq_true rfl) (Nat.le_of_ble_eq_true rfl) (v := .ref 11) (congrArg va_rf (hR10.2.2.2.2.1 (400, 10, 11) (by decide))) (pc' := 14) rfl (Nat.le_of_ble_eq_true rfl) (Nat.le_of_ble_eq_true rfl) ?_
  refine am_steps ok_Bo_setCredit 1 (x' := (15, [some (.ref 10), some (.int a), some (.long b), none], [.int a, .ref 11], h9, 0, 0)) rfl (Nat.le_of_ble_eq_true rfl) (Nat.le_of_ble_eq_true rfl) ?_
  obtain ⟨j13, hx14, hd15⟩ := Option.bind_eq_some_iff.mp hd; clear hd; have hd := hd15; clear hd15
  refine hr_aald ok_Bo_setCredit rfl hR10 (kd := 24) (hs_k hR10 (a := 11) rfl) (by decide) (hs_ln hR10 rfl) hx14 (pc' := 16) rfl (Nat.le_of_ble_eq_true rfl) (Nat.le_of_ble_eq_true rfl) ?_
  show am_S _ _ _ _ _ _ _ (16, [some (.ref 10), some (.int a), some (.long b), none], [va_rf (S.2.2.2.2.2.2 11 j13)], h9, 0, 0) _
  refine am_steps ok_Bo_setCredit 1 (x' := (17, [some (.ref 10), some (.int a), some (.long b), none], [.long b, va_rf (S.2.2.2.2.2.2 11 j13)], h9, 0, 0)) rfl (Nat.le_of_ble_eq_true rfl) (Nat.le_of_ble_eq_true rfl) ?_
  obtain ⟨b16, hb17, hd18⟩ := Option.bind_eq_some_iff.mp hd; clear hd; have hd := hd18; clear hd18
  have hk19 := (fun b hb => hR10.2.2.2.1 _ _ (hK.ln (hs_k hR10 (a := 11) rfl)) _ b hb) b16 hb17
  rw [hb17]
  show am_S _ _ _ _ _ _ _ (17, [some (.ref 10), some (.int a), some (.long b), none], [.long b, .ref b16], h9, 0, 0) _
  refine hr_put ok_Bo_setCredit rfl hR10 (kd := 9) hk19 rfl (Nat.le_of_ble_eq_true rfl) (Nat.le_of_ble_eq_true rfl) rfl (S' := (hpL (hpL S 406 10 q1) 904 b16 b)) rfl (hWT.up hR10.2.2 rfl rfl rfl) (pc' := 20) rfl (Nat.le_of_ble_eq_true rfl) (Nat.le_of_ble_eq_true rfl) (fun h20 hR21 g22 => ?_)
  have f23 := hF.tr f12 g22
  refine am_steps ok_Bo_setCredit 2 (x' := (if (a : Int32) = 0 then 46 else 24, [some (.ref 10), some (.int a), some (.long b), none], [], h20, 0, 0)) rfl (Nat.le_of_ble_eq_true rfl) (Nat.le_of_ble_eq_true rfl) ?_
  refine am_if (fun hc24 => ?_) (fun hc24 => ?_)
  · rw [if_pos hc24] at hd
    cases hd; exact am_ret ok_Bo_setCredit rfl (Nat.le_of_ble_eq_true rfl) (Nat.le_of_ble_eq_true rfl) ⟨rfl, hR21, f23, hE.rf⟩
  · rw [if_neg hc24] at hd
    refine am_steps ok_Bo_setCredit 1 (x' := (25, [some (.ref 10), some (.int a), some (.long b), none], [.ref 10], h20, 0, 0)) rfl (Nat.le_of_ble_eq_true rfl) (Nat.le_of_ble_eq_true rfl) ?_
    refine hr_get ok_Bo_setCredit rfl hR21 (kd := 4) (hs_k hR21 (a := 10) rfl) rfl (Nat.le_of_ble_eq_true rfl) (Nat.le_of_ble_eq_true rfl) (v := .int (S.2.1 404 10)) rfl (pc' := 28) rfl (Nat.le_of_ble_eq_true rfl) (Nat.le_of_ble_eq_true rfl) ?_
    refine am_steps ok_Bo_setCredit 2 (x' := (if ((S.2.1 404 10) : Int32) = (-1) then 46 else 32, [some (.ref 10), some (.int a), some (.long b), none], [], h20, 0, 0)) rfl (Nat.le_of_ble_eq_true rfl) (Nat.le_of_ble_eq_true rfl) ?_
    refine am_if (fun hc25 => ?_) (fun hc25 => ?_)
    · rw [if_pos hc25] at hd
      cases hd; exact am_ret ok_Bo_setCredit rfl (Nat.le_of_ble_eq_true rfl) (Nat.le_of_ble_eq_true rfl) ⟨rfl, hR21, f23, hE.rf⟩
    · rw [if_neg hc25] at hd
      refine am_steps ok_Bo_setCredit 3 (x' := (35, [some (.ref 10), some (.int a), some (.long b), none], [.ref 10, .int a, .ref 10], h20, 0, 0)) rfl (Nat.le_of_ble_eq_true rfl) (Nat.le_of_ble_eq_true rfl) ?_
      refine hr_get ok_Bo_setCredit rfl hR21 (kd := 4) (hs_k hR21 (a := 10) rfl) rfl (Nat.le_of_ble_eq_true rfl) (Nat.le_of_ble_eq_true rfl) (v := .int (S.2.1 404 10)) rfl (pc' := 38) rfl (Nat.le_of_ble_eq_true rfl) (Nat.le_of_ble_eq_true rfl) ?_
      obtain ⟨q26, hq27, hd28⟩ := Option.bind_eq_some_iff.mp hd; clear hd; have hd := hd28; clear hd28
      refine ar_cv ok_Bo_setCredit hk_Bo_account rfl rfl (As := [.int a, .int (S.2.1 404 10)]) (ad := 10) (rest := []) rfl rfl (hR21.ob (hs_k hR21 (a := 10) rfl) (Nat.le_of_ble_eq_true rfl)) (Nat.le_of_ble_eq_true rfl) (c_Bo_account a (S.2.1 404 10) (hpL (hpL S 406 10 q1) 904 b16 b) h20 hR21  q26 hq27) (Nat.le_of_ble_eq_true rfl) (Nat.le_of_ble_eq_true rfl) (Nat.le_of_ble_eq_true rfl) (Nat.le_of_ble_eq_true rfl) (pc' := 41) rfl (fun r29 h31 z30 => ?_)
      obtain ⟨rfl, hk32, hR33, g34, e35⟩ := z30
      have f36 := hF.tr f23 g34
      show am_S _ _ _ _ _ _ _ (41, [some (.ref 10), some (.int a), some (.long b), none], [.ref q26.1], h31, 1, 10) _
      refine am_steps ok_Bo_setCredit 2 (x' := (43, [some (.ref 10), some (.int a), some (.long b), none], [.long (-b), .ref q26.1], h31, 1, 10)) rfl (Nat.le_of_ble_eq_true rfl) (Nat.le_of_ble_eq_true rfl) ?_
      refine hr_put ok_Bo_setCredit rfl hR33 (kd := 10) (hk32 _ rfl) rfl (Nat.le_of_ble_eq_true rfl) (Nat.le_of_ble_eq_true rfl) rfl (S' := (hpL q26.2 1003 q26.1 (-b))) rfl (hWT.up hR33.2.2 rfl rfl rfl) (pc' := 46) rfl (Nat.le_of_ble_eq_true rfl) (Nat.le_of_ble_eq_true rfl) (fun h37 hR38 g39 => ?_)
      have f40 := hF.tr f36 g39
      cases hd; exact am_ret ok_Bo_setCredit rfl (Nat.le_of_ble_eq_true rfl) (Nat.le_of_ble_eq_true rfl) ⟨rfl, hR38, f40, (hE.rf.tr e35)⟩
def hl_Bo_setPrice_3 : Nat → Int32 → Int64 → Int32 → Int32 → hS → Option (hS)
  | 0, _, _, _, _, _ => none
  | fu + 1, v1, v2, v4, v5, s => if ((s.2.1 401 10) : Int32) ≤ v5 then (some s) else ((h_Bo_creditIfPriced v5 v1 v2 v4 s).bind fun q2 => ((h_Bo_setCredit v5 q2 s).bind fun q10 => (hl_Bo_setPrice_3 fu v1 v2 v4 (v5 + 1) q10)))
set_option maxHeartbeats 4000000 in
set_option maxRecDepth 100000 in
theorem Lc_Bo_setPrice_3 {Q : Option Value → am_H → Prop} (sh0 : List (Nat × Nat)) (h0 : am_H) : ∀ (fu : Nat) (k n : Nat), k + fu * 1 ≤ 257 → n + fu * 10 ≤ 2570 → ∀ (v1 : Int32) (v2 : Int64) (v4 : Int32) (v5 : Int32) (s : hS) (h : am_H), RH s h → hF h0 h → hE sh0 s.1 → ∀ q : hS, hl_Bo_setPrice_3 fu v1 v2 v4 v5 s = some q → (∀ h' : am_H, RH q h' → hF h0 h' → hE sh0 q.1 → am_S am_Pr none 4 98 257 2570 126 (34, [some (.ref 10), some (.int v1), some (.long v2), none, some (.int v4), none], [], h', 257, 2570) Q) → am_S am_Pr none 4 98 257 2570 126 (3, [some (.ref 10), some (.int v1), some (.long v2), none, some (.int v4), some (.int v5)], [], h, k, n) Q := by
  intro fu
  induction fu with
  | zero => intro k n hk1 hn1 v1 v2 v4 v5 s h hR f he  q hd; cases hd
  | succ fu ih =>
    intro k n hk1 hn1 v1 v2 v4 v5 s h hR f he  q hd kk
    unfold hl_Bo_setPrice_3 at hd
    refine am_steps ok_Bo_setPrice 2 (x' := (6, [some (.ref 10), some (.int v1), some (.long v2), none, some (.int v4), some (.int v5)], [.ref 10, .int v5], h, k, n)) rfl (by rw [Nat.succ_mul] at hk1; (try dsimp only); omega) (by rw [Nat.succ_mul] at hn1; (try dsimp only); omega) ?_
    refine hr_get ok_Bo_setPrice rfl hR (kd := 4) (hs_k hR (a := 10) rfl) rfl (Nat.le_of_ble_eq_true rfl) (Nat.le_of_ble_eq_true rfl) (v := .int (s.2.1 401 10)) rfl (pc' := 9) rfl (by rw [Nat.succ_mul] at hk1; (try dsimp only); omega) (by rw [Nat.succ_mul] at hn1; (try dsimp only); omega) ?_
    refine am_steps ok_Bo_setPrice 1 (x' := (if ((s.2.1 401 10) : Int32) ≤ v5 then 34 else 12, [some (.ref 10), some (.int v1), some (.long v2), none, some (.int v4), some (.int v5)], [], h, k, n)) rfl (by rw [Nat.succ_mul] at hk1; (try dsimp only); omega) (by rw [Nat.succ_mul] at hn1; (try dsimp only); omega) ?_
    refine am_if (fun hc1 => ?_) (fun hc1 => ?_)
    · rw [if_pos hc1] at hd
      refine am_drop 5 ?_
      refine am_wide (k' := 257) (n' := 2570) (by omega) (by omega) ?_
      cases hd; exact kk h hR f he 
    · rw [if_neg hc1] at hd
      refine am_steps ok_Bo_setPrice 7 (x' := (22, [some (.ref 10), some (.int v1), some (.long v2), none, some (.int v4), some (.int v5)], [.int v4, .long v2, .int v1, .int v5, .ref 10, .int v5, .ref 10], h, k, n)) rfl (by rw [Nat.succ_mul] at hk1; (try dsimp only); omega) (by rw [Nat.succ_mul] at hn1; (try dsimp only); omega) ?_
      obtain ⟨q2, hq3, hd4⟩ := Option.bind_eq_some_iff.mp hd; clear hd; have hd := hd4; clear hd4
      refine ar_cv ok_Bo_setPrice hk_Bo_creditIfPriced rfl rfl (As := [.int v5, .int v1, .long v2, .int v4]) (ad := 10) (rest := [.int v5, .ref 10]) rfl rfl (hR.ob (hs_k hR (a := 10) rfl) (Nat.le_of_ble_eq_true rfl)) (Nat.le_of_ble_eq_true rfl) (c_Bo_creditIfPriced v5 v1 v2 v4 s h hR  q2 hq3) (Nat.le_of_ble_eq_true rfl) (Nat.le_of_ble_eq_true rfl) (by rw [Nat.succ_mul] at hk1; (try dsimp only); omega) (by rw [Nat.succ_mul] at hn1; (try dsimp only); omega) (pc' := 25) rfl (fun r5 h7 z6 => ?_)
      obtain ⟨rfl, z9⟩ := z6; rw [z9]
      show am_S _ _ _ _ _ _ _ (25, [some (.ref 10), some (.int v1), some (.long v2), none, some (.int v4), some (.int v5)], [.long q2, .int v5, .ref 10], h, (k + 0), (n + 0)) _
      obtain ⟨q10, hq11, hd12⟩ := Option.bind_eq_some_iff.mp hd; clear hd; have hd := hd12; clear hd12
      refine ar_cv ok_Bo_setPrice hk_Bo_setCredit rfl rfl (As := [.int v5, .long q2]) (ad := 10) (rest := []) rfl rfl (hR.ob (hs_k hR (a := 10) rfl) (Nat.le_of_ble_eq_true rfl)) (Nat.le_of_ble_eq_true rfl) (c_Bo_setCredit v5 q2 s h hR  q10 hq11) (Nat.le_of_ble_eq_true rfl) (Nat.le_of_ble_eq_true rfl) (by rw [Nat.succ_mul] at hk1; (try dsimp only); omega) (by rw [Nat.succ_mul] at hn1; (try dsimp only); omega) (pc' := 28) rfl (fun r13 h15 z14 => ?_)
      obtain ⟨rfl, hR17, g18, e19⟩ := z14
      have f20 := hF.tr f g18
      show am_S _ _ _ _ _ _ _ (28, [some (.ref 10), some (.int v1), some (.long v2), none, some (.int v4), some (.int v5)], [], h15, ((k + 0) + 1), ((n + 0) + 10)) _
      refine am_steps ok_Bo_setPrice 2 (x' := (3, [some (.ref 10), some (.int v1), some (.long v2), none, some (.int v4), some (.int (v5 + 1))], [], h15, ((k + 0) + 1), ((n + 0) + 10))) rfl (by rw [Nat.succ_mul] at hk1; (try dsimp only); omega) (by rw [Nat.succ_mul] at hn1; (try dsimp only); omega) ?_
      exact ih (((k + 0) + 1)) (((n + 0) + 10)) (by rw [Nat.succ_mul] at hk1; omega) (by rw [Nat.succ_mul] at hn1; omega) v1 v2 v4 (v5 + 1) q10 h15 hR17 f20 (he.tr e19)  q hd kk
def h_Bo_setPrice (a : Int32) (b : Int64) (c : Int32) (S : hS) : Option (hS) := (hl_Bo_setPrice_3 257 a b c 0 S).bind fun q21 => ((am_ix a 64).bind fun j28 => (((q21.2.2.2.2.2.2 12 j28)).bind fun b31 => (some (hpI (hpL q21 302 b31 b) 303 b31 c))))
set_option maxHeartbeats 4000000 in
set_option maxRecDepth 100000 in
theorem c_Bo_setPrice (a : Int32) (b : Int64) (c : Int32) (S : hS) (h0 : am_H) (hR : RH S h0)  (q : hS) (hd : h_Bo_setPrice a b c S = some q) : am_Me am_Pr none 4 98 257 2570 126 [.ref 10, .int a, .long b, .int c] h0 (hQv q S.1 h0) := by
  refine am_enter (d := hd_Bo_setPrice) rfl (by decide +kernel) (Nat.le_of_ble_eq_true rfl) ?_
  show am_S _ _ _ _ _ _ _ (0, [some (.ref 10), some (.int a), some (.long b), none, some (.int c), none], [], h0, 0, 0) _
  unfold h_Bo_setPrice at hd
  refine am_steps ok_Bo_setPrice 2 (x' := (3, [some (.ref 10), some (.int a), some (.long b), none, some (.int c), some (.int 0)], [], h0, 0, 0)) rfl (Nat.le_of_ble_eq_true rfl) (Nat.le_of_ble_eq_true rfl) ?_
  obtain ⟨q21, hq22, hd23⟩ := Option.bind_eq_some_iff.mp hd; clear hd; have hd := hd23; clear hd23
  refine Lc_Bo_setPrice_3 S.1 h0 257 0 0 (Nat.le_of_ble_eq_true rfl) (Nat.le_of_ble_eq_true rfl) a b c 0 S h0 hR hF.rf hE.rf  q21 hq22 (fun h24 hR25 f26 e27 => ?_)
  show am_S _ _ _ _ _ _ _ (34, [some (.ref 10), some (.int a), some (.long b), none, some (.int c), none], [], h24, 257, 2570) _
  refine am_steps ok_Bo_setPrice 1 (x' := (35, [some (.ref 10), some (.int a), some (.long b), none, some (.int c), none], [.ref 10], h24, 257, 2570)) rfl (Nat.le_of_ble_eq_true rfl) (Nat.le_of_ble_eq_true rfl) ?_
  refine hr_get ok_Bo_setPrice rfl hR25 (kd := 4) (hs_k hR25 (a := 10) rfl) rfl (Nat.le_of_ble_eq_true rfl) (Nat.le_of_ble_eq_true rfl) (v := .ref 12) (congrArg va_rf (hR25.2.2.2.2.1 (402, 10, 12) (by decide))) (pc' := 38) rfl (Nat.le_of_ble_eq_true rfl) (Nat.le_of_ble_eq_true rfl) ?_
  refine am_steps ok_Bo_setPrice 1 (x' := (39, [some (.ref 10), some (.int a), some (.long b), none, some (.int c), none], [.int a, .ref 12], h24, 257, 2570)) rfl (Nat.le_of_ble_eq_true rfl) (Nat.le_of_ble_eq_true rfl) ?_
  obtain ⟨j28, hx29, hd30⟩ := Option.bind_eq_some_iff.mp hd; clear hd; have hd := hd30; clear hd30
  refine hr_aald ok_Bo_setPrice rfl hR25 (kd := 25) (hs_k hR25 (a := 12) rfl) (by decide) (hs_ln hR25 rfl) hx29 (pc' := 40) rfl (Nat.le_of_ble_eq_true rfl) (Nat.le_of_ble_eq_true rfl) ?_
  refine am_steps ok_Bo_setPrice 1 (x' := (41, [some (.ref 10), some (.int a), some (.long b), none, some (.int c), none], [.long b, va_rf (q21.2.2.2.2.2.2 12 j28)], h24, 257, 2570)) rfl (Nat.le_of_ble_eq_true rfl) (Nat.le_of_ble_eq_true rfl) ?_
  obtain ⟨b31, hb32, hd33⟩ := Option.bind_eq_some_iff.mp hd; clear hd; have hd := hd33; clear hd33
  have hk34 := (fun b hb => hR25.2.2.2.1 _ _ (hK.ln (hs_k hR25 (a := 12) rfl)) _ b hb) b31 hb32
  rw [hb32]
  show am_S _ _ _ _ _ _ _ (41, [some (.ref 10), some (.int a), some (.long b), none, some (.int c), none], [.long b, .ref b31], h24, 257, 2570) _
  refine hr_put ok_Bo_setPrice rfl hR25 (kd := 3) hk34 rfl (Nat.le_of_ble_eq_true rfl) (Nat.le_of_ble_eq_true rfl) rfl (S' := (hpL q21 302 b31 b)) rfl (hWT.up hR25.2.2 rfl rfl rfl) (pc' := 44) rfl (Nat.le_of_ble_eq_true rfl) (Nat.le_of_ble_eq_true rfl) (fun h35 hR36 g37 => ?_)
  have f38 := hF.tr f26 g37
  refine am_steps ok_Bo_setPrice 1 (x' := (45, [some (.ref 10), some (.int a), some (.long b), none, some (.int c), none], [.ref 10], h35, 257, 2570)) rfl (Nat.le_of_ble_eq_true rfl) (Nat.le_of_ble_eq_true rfl) ?_
  refine hr_get ok_Bo_setPrice rfl hR36 (kd := 4) (hs_k hR36 (a := 10) rfl) rfl (Nat.le_of_ble_eq_true rfl) (Nat.le_of_ble_eq_true rfl) (v := .ref 12) (congrArg va_rf (hR36.2.2.2.2.1 (402, 10, 12) (by decide))) (pc' := 48) rfl (Nat.le_of_ble_eq_true rfl) (Nat.le_of_ble_eq_true rfl) ?_
  refine am_steps ok_Bo_setPrice 1 (x' := (49, [some (.ref 10), some (.int a), some (.long b), none, some (.int c), none], [.int a, .ref 12], h35, 257, 2570)) rfl (Nat.le_of_ble_eq_true rfl) (Nat.le_of_ble_eq_true rfl) ?_
  refine hr_aald ok_Bo_setPrice rfl hR36 (kd := 25) (hs_k hR36 (a := 12) rfl) (by decide) (hs_ln hR36 rfl) hx29 (pc' := 50) rfl (Nat.le_of_ble_eq_true rfl) (Nat.le_of_ble_eq_true rfl) ?_
  show am_S _ _ _ _ _ _ _ (50, [some (.ref 10), some (.int a), some (.long b), none, some (.int c), none], [va_rf (q21.2.2.2.2.2.2 12 j28)], h35, 257, 2570) _
  rw [show va_rf (q21.2.2.2.2.2.2 12 j28) = .ref b31 from congrArg va_rf hb32]
  show am_S _ _ _ _ _ _ _ (50, [some (.ref 10), some (.int a), some (.long b), none, some (.int c), none], [.ref b31], h35, 257, 2570) _
  refine am_steps ok_Bo_setPrice 1 (x' := (52, [some (.ref 10), some (.int a), some (.long b), none, some (.int c), none], [.int c, .ref b31], h35, 257, 2570)) rfl (Nat.le_of_ble_eq_true rfl) (Nat.le_of_ble_eq_true rfl) ?_
  refine hr_put ok_Bo_setPrice rfl hR36 (kd := 3) hk34 rfl (Nat.le_of_ble_eq_true rfl) (Nat.le_of_ble_eq_true rfl) rfl (S' := (hpI (hpL q21 302 b31 b) 303 b31 c)) rfl (hWT.up hR36.2.2 rfl rfl rfl) (pc' := 55) rfl (Nat.le_of_ble_eq_true rfl) (Nat.le_of_ble_eq_true rfl) (fun h39 hR40 g41 => ?_)
  have f42 := hF.tr f38 g41
  cases hd; exact am_ret ok_Bo_setPrice rfl (Nat.le_of_ble_eq_true rfl) (Nat.le_of_ble_eq_true rfl) ⟨rfl, hR40, f42, (hE.rf.tr e27)⟩
def h_Po_moveBy (a : Nat) (b : Int64) (S : hS) : Option (hS) := if ¬ ((lg_cmp b 0) : Int32) = 0 then (if (0 : Int32) ≤ (lg_cmp b 0) then (some (hpL (hpI (hpL S 1001 a ((S.2.2.1 1001 a) + b)) 1007 a ((S.2.1 1007 a) + 1)) 1006 a ((S.2.2.1 1006 a) + b))) else (some (hpL (hpI (hpL S 1001 a ((S.2.2.1 1001 a) + b)) 1007 a ((S.2.1 1007 a) + 1)) 1005 a ((S.2.2.1 1005 a) - b)))) else (some S)
set_option maxHeartbeats 4000000 in
set_option maxRecDepth 100000 in
theorem c_Po_moveBy (a : Nat) (b : Int64) (S : hS) (h0 : am_H) (hR : RH S h0) (ha : hK S.1 a 10) (q : hS) (hd : h_Po_moveBy a b S = some q) : am_Me am_Pr none 0 0 0 0 205 [.ref a, .long b] h0 (hQv q S.1 h0) := by
  refine am_enter (d := hd_Po_moveBy) rfl (by decide +kernel) (Nat.le_of_ble_eq_true rfl) ?_
  show am_S _ _ _ _ _ _ _ (0, [some (.ref a), some (.long b), none], [], h0, 0, 0) _
  unfold h_Po_moveBy at hd
  refine am_steps ok_Po_moveBy 4 (x' := (if ¬ ((lg_cmp b 0) : Int32) = 0 then 7 else 6, [some (.ref a), some (.long b), none], [], h0, 0, 0)) rfl (Nat.le_of_ble_eq_true rfl) (Nat.le_of_ble_eq_true rfl) ?_
  refine am_if (fun hc1 => ?_) (fun hc1 => ?_)
  · rw [if_pos hc1] at hd
    refine am_steps ok_Po_moveBy 2 (x' := (9, [some (.ref a), some (.long b), none], [.ref a, .ref a], h0, 0, 0)) rfl (Nat.le_of_ble_eq_true rfl) (Nat.le_of_ble_eq_true rfl) ?_
    refine hr_get ok_Po_moveBy rfl hR (kd := 10) ha rfl (Nat.le_of_ble_eq_true rfl) (Nat.le_of_ble_eq_true rfl) (v := .long (S.2.2.1 1001 a)) rfl (pc' := 12) rfl (Nat.le_of_ble_eq_true rfl) (Nat.le_of_ble_eq_true rfl) ?_
    refine am_steps ok_Po_moveBy 2 (x' := (14, [some (.ref a), some (.long b), none], [.long ((S.2.2.1 1001 a) + b), .ref a], h0, 0, 0)) rfl (Nat.le_of_ble_eq_true rfl) (Nat.le_of_ble_eq_true rfl) ?_
    refine hr_put ok_Po_moveBy rfl hR (kd := 10) ha rfl (Nat.le_of_ble_eq_true rfl) (Nat.le_of_ble_eq_true rfl) rfl (S' := (hpL S 1001 a ((S.2.2.1 1001 a) + b))) rfl (hWT.up hR.2.2 rfl rfl rfl) (pc' := 17) rfl (Nat.le_of_ble_eq_true rfl) (Nat.le_of_ble_eq_true rfl) (fun h2 hR3 g4 => ?_)
    have f5 := hF.tr hF.rf g4
    refine am_steps ok_Po_moveBy 2 (x' := (19, [some (.ref a), some (.long b), none], [.ref a, .ref a], h2, 0, 0)) rfl (Nat.le_of_ble_eq_true rfl) (Nat.le_of_ble_eq_true rfl) ?_
    refine hr_get ok_Po_moveBy rfl hR3 (kd := 10) ha rfl (Nat.le_of_ble_eq_true rfl) (Nat.le_of_ble_eq_true rfl) (v := .int (S.2.1 1007 a)) rfl (pc' := 22) rfl (Nat.le_of_ble_eq_true rfl) (Nat.le_of_ble_eq_true rfl) ?_
    refine am_steps ok_Po_moveBy 2 (x' := (24, [some (.ref a), some (.long b), none], [.int ((S.2.1 1007 a) + 1), .ref a], h2, 0, 0)) rfl (Nat.le_of_ble_eq_true rfl) (Nat.le_of_ble_eq_true rfl) ?_
    refine hr_put ok_Po_moveBy rfl hR3 (kd := 10) ha rfl (Nat.le_of_ble_eq_true rfl) (Nat.le_of_ble_eq_true rfl) rfl (S' := (hpI (hpL S 1001 a ((S.2.2.1 1001 a) + b)) 1007 a ((S.2.1 1007 a) + 1))) rfl (hWT.up hR3.2.2 rfl rfl rfl) (pc' := 27) rfl (Nat.le_of_ble_eq_true rfl) (Nat.le_of_ble_eq_true rfl) (fun h6 hR7 g8 => ?_)
    have f9 := hF.tr f5 g8
    refine am_steps ok_Po_moveBy 4 (x' := (if (0 : Int32) ≤ (lg_cmp b 0) then 46 else 33, [some (.ref a), some (.long b), none], [], h6, 0, 0)) rfl (Nat.le_of_ble_eq_true rfl) (Nat.le_of_ble_eq_true rfl) ?_
    refine am_if (fun hc10 => ?_) (fun hc10 => ?_)
    · rw [if_pos hc10] at hd
      refine am_steps ok_Po_moveBy 2 (x' := (48, [some (.ref a), some (.long b), none], [.ref a, .ref a], h6, 0, 0)) rfl (Nat.le_of_ble_eq_true rfl) (Nat.le_of_ble_eq_true rfl) ?_
      refine hr_get ok_Po_moveBy rfl hR7 (kd := 10) ha rfl (Nat.le_of_ble_eq_true rfl) (Nat.le_of_ble_eq_true rfl) (v := .long (S.2.2.1 1006 a)) rfl (pc' := 51) rfl (Nat.le_of_ble_eq_true rfl) (Nat.le_of_ble_eq_true rfl) ?_
      refine am_steps ok_Po_moveBy 2 (x' := (53, [some (.ref a), some (.long b), none], [.long ((S.2.2.1 1006 a) + b), .ref a], h6, 0, 0)) rfl (Nat.le_of_ble_eq_true rfl) (Nat.le_of_ble_eq_true rfl) ?_
      refine hr_put ok_Po_moveBy rfl hR7 (kd := 10) ha rfl (Nat.le_of_ble_eq_true rfl) (Nat.le_of_ble_eq_true rfl) rfl (S' := (hpL (hpI (hpL S 1001 a ((S.2.2.1 1001 a) + b)) 1007 a ((S.2.1 1007 a) + 1)) 1006 a ((S.2.2.1 1006 a) + b))) rfl (hWT.up hR7.2.2 rfl rfl rfl) (pc' := 56) rfl (Nat.le_of_ble_eq_true rfl) (Nat.le_of_ble_eq_true rfl) (fun h11 hR12 g13 => ?_)
      have f14 := hF.tr f9 g13
      cases hd; exact am_ret ok_Po_moveBy rfl (Nat.le_of_ble_eq_true rfl) (Nat.le_of_ble_eq_true rfl) ⟨rfl, hR12, f14, hE.rf⟩
    · rw [if_neg hc10] at hd
      refine am_steps ok_Po_moveBy 2 (x' := (35, [some (.ref a), some (.long b), none], [.ref a, .ref a], h6, 0, 0)) rfl (Nat.le_of_ble_eq_true rfl) (Nat.le_of_ble_eq_true rfl) ?_
      refine hr_get ok_Po_moveBy rfl hR7 (kd := 10) ha rfl (Nat.le_of_ble_eq_true rfl) (Nat.le_of_ble_eq_true rfl) (v := .long (S.2.2.1 1005 a)) rfl (pc' := 38) rfl (Nat.le_of_ble_eq_true rfl) (Nat.le_of_ble_eq_true rfl) ?_
      refine am_steps ok_Po_moveBy 2 (x' := (40, [some (.ref a), some (.long b), none], [.long ((S.2.2.1 1005 a) - b), .ref a], h6, 0, 0)) rfl (Nat.le_of_ble_eq_true rfl) (Nat.le_of_ble_eq_true rfl) ?_
      refine hr_put ok_Po_moveBy rfl hR7 (kd := 10) ha rfl (Nat.le_of_ble_eq_true rfl) (Nat.le_of_ble_eq_true rfl) rfl (S' := (hpL (hpI (hpL S 1001 a ((S.2.2.1 1001 a) + b)) 1007 a ((S.2.1 1007 a) + 1)) 1005 a ((S.2.2.1 1005 a) - b))) rfl (hWT.up hR7.2.2 rfl rfl rfl) (pc' := 43) rfl (Nat.le_of_ble_eq_true rfl) (Nat.le_of_ble_eq_true rfl) (fun h15 hR16 g17 => ?_)
      have f18 := hF.tr f9 g17
      refine am_steps ok_Po_moveBy 1 (x' := (56, [some (.ref a), some (.long b), none], [], h15, 0, 0)) rfl (Nat.le_of_ble_eq_true rfl) (Nat.le_of_ble_eq_true rfl) ?_
      cases hd; exact am_ret ok_Po_moveBy rfl (Nat.le_of_ble_eq_true rfl) (Nat.le_of_ble_eq_true rfl) ⟨rfl, hR16, f18, hE.rf⟩
  · rw [if_neg hc1] at hd
    cases hd; exact am_ret ok_Po_moveBy rfl (Nat.le_of_ble_eq_true rfl) (Nat.le_of_ble_eq_true rfl) ⟨rfl, hR, hF.rf, hE.rf⟩
def h_Bo_give (a : Int32) (b : Int32) (c : Int64) (S : hS) : Option (hS) := (h_Bo_account 0 a S).bind fun q1 => ((h_Po_moveBy q1.1 (-c) q1.2).bind fun q12 => ((h_Bo_account b a q12).bind fun q23 => ((h_Po_moveBy q23.1 c q23.2).bind fun q34 => (some q34))))
set_option maxHeartbeats 4000000 in
set_option maxRecDepth 100000 in
theorem c_Bo_give (a : Int32) (b : Int32) (c : Int64) (S : hS) (h0 : am_H) (hR : RH S h0)  (q : hS) (hd : h_Bo_give a b c S = some q) : am_Me am_Pr none 3 75 2 20 119 [.ref 10, .int a, .int b, .long c] h0 (hQv q S.1 h0) := by
  refine am_enter (d := hd_Bo_give) rfl (by decide +kernel) (Nat.le_of_ble_eq_true rfl) ?_
  show am_S _ _ _ _ _ _ _ (0, [some (.ref 10), some (.int a), some (.int b), some (.long c), none], [], h0, 0, 0) _
  unfold h_Bo_give at hd
  refine am_steps ok_Bo_give 3 (x' := (3, [some (.ref 10), some (.int a), some (.int b), some (.long c), none], [.int a, .int 0, .ref 10], h0, 0, 0)) rfl (Nat.le_of_ble_eq_true rfl) (Nat.le_of_ble_eq_true rfl) ?_
  obtain ⟨q1, hq2, hd3⟩ := Option.bind_eq_some_iff.mp hd; clear hd; have hd := hd3; clear hd3
  refine ar_cv ok_Bo_give hk_Bo_account rfl rfl (As := [.int 0, .int a]) (ad := 10) (rest := []) rfl rfl (hR.ob (hs_k hR (a := 10) rfl) (Nat.le_of_ble_eq_true rfl)) (Nat.le_of_ble_eq_true rfl) (c_Bo_account 0 a S h0 hR  q1 hq2) (Nat.le_of_ble_eq_true rfl) (Nat.le_of_ble_eq_true rfl) (Nat.le_of_ble_eq_true rfl) (Nat.le_of_ble_eq_true rfl) (pc' := 6) rfl (fun r4 h6 z5 => ?_)
  obtain ⟨rfl, hk7, hR8, g9, e10⟩ := z5
  have f11 := hF.tr hF.rf g9
  show am_S _ _ _ _ _ _ _ (6, [some (.ref 10), some (.int a), some (.int b), some (.long c), none], [.ref q1.1], h6, 1, 10) _
  refine am_steps ok_Bo_give 2 (x' := (8, [some (.ref 10), some (.int a), some (.int b), some (.long c), none], [.long (-c), .ref q1.1], h6, 1, 10)) rfl (Nat.le_of_ble_eq_true rfl) (Nat.le_of_ble_eq_true rfl) ?_
  obtain ⟨q12, hq13, hd14⟩ := Option.bind_eq_some_iff.mp hd; clear hd; have hd := hd14; clear hd14
  refine ar_cv ok_Bo_give hk_Po_moveBy rfl rfl (As := [.long (-c)]) (ad := q1.1) (rest := []) rfl rfl (hR8.ob (hk7 _ rfl) (Nat.le_of_ble_eq_true rfl)) (Nat.le_of_ble_eq_true rfl) (c_Po_moveBy q1.1 (-c) q1.2 h6 hR8 (hk7 _ rfl) q12 hq13) (Nat.le_of_ble_eq_true rfl) (Nat.le_of_ble_eq_true rfl) (Nat.le_of_ble_eq_true rfl) (Nat.le_of_ble_eq_true rfl) (pc' := 11) rfl (fun r15 h17 z16 => ?_)
  obtain ⟨rfl, hR19, g20, e21⟩ := z16
  have f22 := hF.tr f11 g20
  show am_S _ _ _ _ _ _ _ (11, [some (.ref 10), some (.int a), some (.int b), some (.long c), none], [], h17, 1, 10) _
  refine am_steps ok_Bo_give 3 (x' := (14, [some (.ref 10), some (.int a), some (.int b), some (.long c), none], [.int a, .int b, .ref 10], h17, 1, 10)) rfl (Nat.le_of_ble_eq_true rfl) (Nat.le_of_ble_eq_true rfl) ?_
  obtain ⟨q23, hq24, hd25⟩ := Option.bind_eq_some_iff.mp hd; clear hd; have hd := hd25; clear hd25
  refine ar_cv ok_Bo_give hk_Bo_account rfl rfl (As := [.int b, .int a]) (ad := 10) (rest := []) rfl rfl (hR19.ob (hs_k hR19 (a := 10) rfl) (Nat.le_of_ble_eq_true rfl)) (Nat.le_of_ble_eq_true rfl) (c_Bo_account b a q12 h17 hR19  q23 hq24) (Nat.le_of_ble_eq_true rfl) (Nat.le_of_ble_eq_true rfl) (Nat.le_of_ble_eq_true rfl) (Nat.le_of_ble_eq_true rfl) (pc' := 17) rfl (fun r26 h28 z27 => ?_)
  obtain ⟨rfl, hk29, hR30, g31, e32⟩ := z27
  have f33 := hF.tr f22 g31
  show am_S _ _ _ _ _ _ _ (17, [some (.ref 10), some (.int a), some (.int b), some (.long c), none], [.ref q23.1], h28, 2, 20) _
  refine am_steps ok_Bo_give 1 (x' := (18, [some (.ref 10), some (.int a), some (.int b), some (.long c), none], [.long c, .ref q23.1], h28, 2, 20)) rfl (Nat.le_of_ble_eq_true rfl) (Nat.le_of_ble_eq_true rfl) ?_
  obtain ⟨q34, hq35, hd36⟩ := Option.bind_eq_some_iff.mp hd; clear hd; have hd := hd36; clear hd36
  refine ar_cv ok_Bo_give hk_Po_moveBy rfl rfl (As := [.long c]) (ad := q23.1) (rest := []) rfl rfl (hR30.ob (hk29 _ rfl) (Nat.le_of_ble_eq_true rfl)) (Nat.le_of_ble_eq_true rfl) (c_Po_moveBy q23.1 c q23.2 h28 hR30 (hk29 _ rfl) q34 hq35) (Nat.le_of_ble_eq_true rfl) (Nat.le_of_ble_eq_true rfl) (Nat.le_of_ble_eq_true rfl) (Nat.le_of_ble_eq_true rfl) (pc' := 21) rfl (fun r37 h39 z38 => ?_)
  obtain ⟨rfl, hR41, g42, e43⟩ := z38
  have f44 := hF.tr f33 g42
  show am_S _ _ _ _ _ _ _ (21, [some (.ref 10), some (.int a), some (.int b), some (.long c), none], [], h39, 2, 20) _
  cases hd; exact am_ret ok_Bo_give rfl (Nat.le_of_ble_eq_true rfl) (Nat.le_of_ble_eq_true rfl) ⟨rfl, hR41, f44, ((((hE.rf.tr e10).tr e21).tr e32).tr e43)⟩
def h_De_putBehind (a : Option Nat) (b : Int32) (S : hS) : Option (hS) := if a = none then (some S) else ((a).bind fun b2 => (if ¬ ((S.2.1 704 b2) : Int32) = 1 then (some (hpI S 703 b2 b)) else ((h_Qu_leave (some b2) (hpI S 703 b2 b)).bind fun q11 => ((h_Qu_come b2 q11).bind fun q22 => (some q22)))))
set_option maxHeartbeats 4000000 in
set_option maxRecDepth 100000 in
theorem c_De_putBehind (a : Option Nat) (b : Int32) (S : hS) (h0 : am_H) (hR : RH S h0) (ha : ∀ b, a = some b → hK S.1 b 7) (q : hS) (hd : h_De_putBehind a b S = some q) : am_Me am_Pr none 2 45 0 0 159 [.ref 20, va_rf a, .int b] h0 (hQv q S.1 h0) := by
  refine am_enter (d := hd_De_putBehind) rfl (by decide +kernel) (by cases a <;> exact Nat.le_of_ble_eq_true rfl) ?_
  rw [show am_en hd_De_putBehind.2.2.1 [.ref 20, va_rf a, .int b] = [some (.ref 20), some (va_rf a), some (.int b)] by cases a <;> rfl]
  show am_S _ _ _ _ _ _ _ (0, [some (.ref 20), some (va_rf a), some (.int b)], [], h0, 0, 0) _
  unfold h_De_putBehind at hd
  refine hr_aloadn ok_De_putBehind rfl rfl (pc' := 1) rfl (Nat.le_of_ble_eq_true rfl) (Nat.le_of_ble_eq_true rfl) ?_
  refine hr_ifnon ok_De_putBehind rfl (pc' := 4) rfl (Nat.le_of_ble_eq_true rfl) (Nat.le_of_ble_eq_true rfl) ?_
  refine am_if (fun hc1 => ?_) (fun hc1 => ?_)
  · rw [if_pos hc1] at hd
    cases hd; exact am_ret ok_De_putBehind rfl (Nat.le_of_ble_eq_true rfl) (Nat.le_of_ble_eq_true rfl) ⟨rfl, hR, hF.rf, hE.rf⟩
  · rw [if_neg hc1] at hd
    obtain ⟨b2, hb3, hd4⟩ := Option.bind_eq_some_iff.mp hd; clear hd; have hd := hd4; clear hd4
    have hk5 := ha b2 hb3
    rw [hb3]
    show am_S _ _ _ _ _ _ _ (5, [some (.ref 20), some (.ref b2), some (.int b)], [], h0, 0, 0) _
    refine am_steps ok_De_putBehind 2 (x' := (7, [some (.ref 20), some (.ref b2), some (.int b)], [.int b, .ref b2], h0, 0, 0)) rfl (Nat.le_of_ble_eq_true rfl) (Nat.le_of_ble_eq_true rfl) ?_
    refine hr_put ok_De_putBehind rfl hR (kd := 7) hk5 rfl (Nat.le_of_ble_eq_true rfl) (Nat.le_of_ble_eq_true rfl) rfl (S' := (hpI S 703 b2 b)) rfl (hWT.up hR.2.2 rfl rfl rfl) (pc' := 10) rfl (Nat.le_of_ble_eq_true rfl) (Nat.le_of_ble_eq_true rfl) (fun h6 hR7 g8 => ?_)
    have f9 := hF.tr hF.rf g8
    refine am_steps ok_De_putBehind 1 (x' := (11, [some (.ref 20), some (.ref b2), some (.int b)], [.ref b2], h6, 0, 0)) rfl (Nat.le_of_ble_eq_true rfl) (Nat.le_of_ble_eq_true rfl) ?_
    refine hr_get ok_De_putBehind rfl hR7 (kd := 7) hk5 rfl (Nat.le_of_ble_eq_true rfl) (Nat.le_of_ble_eq_true rfl) (v := .int (S.2.1 704 b2)) rfl (pc' := 14) rfl (Nat.le_of_ble_eq_true rfl) (Nat.le_of_ble_eq_true rfl) ?_
    refine am_steps ok_De_putBehind 2 (x' := (if ¬ ((S.2.1 704 b2) : Int32) = 1 then 34 else 18, [some (.ref 20), some (.ref b2), some (.int b)], [], h6, 0, 0)) rfl (Nat.le_of_ble_eq_true rfl) (Nat.le_of_ble_eq_true rfl) ?_
    refine am_if (fun hc10 => ?_) (fun hc10 => ?_)
    · rw [if_pos hc10] at hd
      cases hd; exact am_ret ok_De_putBehind rfl (Nat.le_of_ble_eq_true rfl) (Nat.le_of_ble_eq_true rfl) ⟨rfl, hR7, f9, hE.rf⟩
    · rw [if_neg hc10] at hd
      refine am_steps ok_De_putBehind 1 (x' := (19, [some (.ref 20), some (.ref b2), some (.int b)], [.ref 20], h6, 0, 0)) rfl (Nat.le_of_ble_eq_true rfl) (Nat.le_of_ble_eq_true rfl) ?_
      refine hr_get ok_De_putBehind rfl hR7 (kd := 5) (hs_k hR7 (a := 20) rfl) rfl (Nat.le_of_ble_eq_true rfl) (Nat.le_of_ble_eq_true rfl) (v := .ref 16) (congrArg va_rf (hR7.2.2.2.2.1 (501, 20, 16) (by decide))) (pc' := 22) rfl (Nat.le_of_ble_eq_true rfl) (Nat.le_of_ble_eq_true rfl) ?_
      refine am_steps ok_De_putBehind 1 (x' := (23, [some (.ref 20), some (.ref b2), some (.int b)], [.ref b2, .ref 16], h6, 0, 0)) rfl (Nat.le_of_ble_eq_true rfl) (Nat.le_of_ble_eq_true rfl) ?_
      obtain ⟨q11, hq12, hd13⟩ := Option.bind_eq_some_iff.mp hd; clear hd; have hd := hd13; clear hd13
      refine ar_cv ok_De_putBehind hk_Qu_leave rfl rfl (As := [.ref b2]) (ad := 16) (rest := []) rfl rfl (hR7.ob (hs_k hR7 (a := 16) rfl) (Nat.le_of_ble_eq_true rfl)) (Nat.le_of_ble_eq_true rfl) (c_Qu_leave (some b2) (hpI S 703 b2 b) h6 hR7 (fun _ hz => by cases hz; exact hk5) q11 hq12) (Nat.le_of_ble_eq_true rfl) (Nat.le_of_ble_eq_true rfl) (Nat.le_of_ble_eq_true rfl) (Nat.le_of_ble_eq_true rfl) (pc' := 26) rfl (fun r14 h16 z15 => ?_)
      obtain ⟨rfl, hR18, g19, e20⟩ := z15
      have f21 := hF.tr f9 g19
      show am_S _ _ _ _ _ _ _ (26, [some (.ref 20), some (.ref b2), some (.int b)], [], h16, 0, 0) _
      refine am_steps ok_De_putBehind 1 (x' := (27, [some (.ref 20), some (.ref b2), some (.int b)], [.ref 20], h16, 0, 0)) rfl (Nat.le_of_ble_eq_true rfl) (Nat.le_of_ble_eq_true rfl) ?_
      refine hr_get ok_De_putBehind rfl hR18 (kd := 5) (hs_k hR18 (a := 20) rfl) rfl (Nat.le_of_ble_eq_true rfl) (Nat.le_of_ble_eq_true rfl) (v := .ref 16) (congrArg va_rf (hR18.2.2.2.2.1 (501, 20, 16) (by decide))) (pc' := 30) rfl (Nat.le_of_ble_eq_true rfl) (Nat.le_of_ble_eq_true rfl) ?_
      refine am_steps ok_De_putBehind 1 (x' := (31, [some (.ref 20), some (.ref b2), some (.int b)], [.ref b2, .ref 16], h16, 0, 0)) rfl (Nat.le_of_ble_eq_true rfl) (Nat.le_of_ble_eq_true rfl) ?_
      obtain ⟨q22, hq23, hd24⟩ := Option.bind_eq_some_iff.mp hd; clear hd; have hd := hd24; clear hd24
      refine ar_cv ok_De_putBehind hk_Qu_come rfl rfl (As := [.ref b2]) (ad := 16) (rest := []) rfl rfl (hR18.ob (hs_k hR18 (a := 16) rfl) (Nat.le_of_ble_eq_true rfl)) (Nat.le_of_ble_eq_true rfl) (c_Qu_come b2 q11 h16 hR18 (hk5.up e20) q22 hq23) (Nat.le_of_ble_eq_true rfl) (Nat.le_of_ble_eq_true rfl) (Nat.le_of_ble_eq_true rfl) (Nat.le_of_ble_eq_true rfl) (pc' := 34) rfl (fun r25 h27 z26 => ?_)
      obtain ⟨rfl, hR29, g30, e31⟩ := z26
      have f32 := hF.tr f21 g30
      show am_S _ _ _ _ _ _ _ (34, [some (.ref 20), some (.ref b2), some (.int b)], [], h27, 0, 0) _
      cases hd; exact am_ret ok_De_putBehind rfl (Nat.le_of_ble_eq_true rfl) (Nat.le_of_ble_eq_true rfl) ⟨rfl, hR29, f32, ((hE.rf.tr e20).tr e31)⟩
def h_Bo_setLimit (a : Nat) (b : Int64) (S : hS) : Option (hS) := (if ¬ ((S.2.1 1002 a) : Int32) = 0 then (some S) else (some (hpI S 405 10 ((S.2.1 405 10) + 1)))).bind fun (u1 : hS) => (some (hpL (hpI u1 1002 a 1) 1003 a (-b)))
set_option maxHeartbeats 4000000 in
set_option maxRecDepth 100000 in
theorem c_Bo_setLimit (a : Nat) (b : Int64) (S : hS) (h0 : am_H) (hR : RH S h0) (ha : hK S.1 a 10) (q : hS) (hd : h_Bo_setLimit a b S = some q) : am_Me am_Pr none 0 0 0 0 117 [.ref 10, .ref a, .long b] h0 (hQv q S.1 h0) := by
  refine am_enter (d := hd_Bo_setLimit) rfl (by decide +kernel) (Nat.le_of_ble_eq_true rfl) ?_
  show am_S _ _ _ _ _ _ _ (0, [some (.ref 10), some (.ref a), some (.long b), none], [], h0, 0, 0) _
  unfold h_Bo_setLimit at hd
  refine am_steps ok_Bo_setLimit 1 (x' := (1, [some (.ref 10), some (.ref a), some (.long b), none], [.ref a], h0, 0, 0)) rfl (Nat.le_of_ble_eq_true rfl) (Nat.le_of_ble_eq_true rfl) ?_
  refine hr_get ok_Bo_setLimit rfl hR (kd := 10) ha rfl (Nat.le_of_ble_eq_true rfl) (Nat.le_of_ble_eq_true rfl) (v := .int (S.2.1 1002 a)) rfl (pc' := 4) rfl (Nat.le_of_ble_eq_true rfl) (Nat.le_of_ble_eq_true rfl) ?_
  refine am_steps ok_Bo_setLimit 1 (x' := (if ¬ ((S.2.1 1002 a) : Int32) = 0 then 17 else 7, [some (.ref 10), some (.ref a), some (.long b), none], [], h0, 0, 0)) rfl (Nat.le_of_ble_eq_true rfl) (Nat.le_of_ble_eq_true rfl) ?_
  obtain ⟨u1, hA3, hB4⟩ := Option.bind_eq_some_iff.mp hd; clear hd
  have K2 : ∀ h' : am_H, RH u1 h' → hF h0 h' → hE S.1 u1.1 → am_S am_Pr none 0 0 0 0 117 (17, [none, some (.ref a), some (.long b), none], [], h', 0, 0) (hQv q S.1 h0) := by
    have hd := hB4
    intro h5 hR6 f7 e8
    refine am_steps ok_Bo_setLimit 2 (x' := (19, [none, some (.ref a), some (.long b), none], [.int 1, .ref a], h5, 0, 0)) rfl (Nat.le_of_ble_eq_true rfl) (Nat.le_of_ble_eq_true rfl) ?_
    refine hr_put ok_Bo_setLimit rfl hR6 (kd := 10) (ha.up e8) rfl (Nat.le_of_ble_eq_true rfl) (Nat.le_of_ble_eq_true rfl) rfl (S' := (hpI u1 1002 a 1)) rfl (hWT.up hR6.2.2 rfl rfl rfl) (pc' := 22) rfl (Nat.le_of_ble_eq_true rfl) (Nat.le_of_ble_eq_true rfl) (fun h9 hR10 g11 => ?_)
    have f12 := hF.tr f7 g11
    refine am_steps ok_Bo_setLimit 3 (x' := (25, [none, some (.ref a), some (.long b), none], [.long (-b), .ref a], h9, 0, 0)) rfl (Nat.le_of_ble_eq_true rfl) (Nat.le_of_ble_eq_true rfl) ?_
    refine hr_put ok_Bo_setLimit rfl hR10 (kd := 10) (ha.up e8) rfl (Nat.le_of_ble_eq_true rfl) (Nat.le_of_ble_eq_true rfl) rfl (S' := (hpL (hpI u1 1002 a 1) 1003 a (-b))) rfl (hWT.up hR10.2.2 rfl rfl rfl) (pc' := 28) rfl (Nat.le_of_ble_eq_true rfl) (Nat.le_of_ble_eq_true rfl) (fun h13 hR14 g15 => ?_)
    have f16 := hF.tr f12 g15
    cases hd; exact am_ret ok_Bo_setLimit rfl (Nat.le_of_ble_eq_true rfl) (Nat.le_of_ble_eq_true rfl) ⟨rfl, hR14, f16, (hE.rf.tr e8)⟩
  clear hB4; have hd := hA3; clear hA3
  refine am_if (fun hc17 => ?_) (fun hc17 => ?_)
  · rw [if_pos hc17] at hd
    refine am_drop 0 ?_
    cases hd; exact K2 h0 hR hF.rf hE.rf
  · rw [if_neg hc17] at hd
    refine am_steps ok_Bo_setLimit 2 (x' := (9, [some (.ref 10), some (.ref a), some (.long b), none], [.ref 10, .ref 10], h0, 0, 0)) rfl (Nat.le_of_ble_eq_true rfl) (Nat.le_of_ble_eq_true rfl) ?_
    refine hr_get ok_Bo_setLimit rfl hR (kd := 4) (hs_k hR (a := 10) rfl) rfl (Nat.le_of_ble_eq_true rfl) (Nat.le_of_ble_eq_true rfl) (v := .int (S.2.1 405 10)) rfl (pc' := 12) rfl (Nat.le_of_ble_eq_true rfl) (Nat.le_of_ble_eq_true rfl) ?_
    refine am_steps ok_Bo_setLimit 2 (x' := (14, [some (.ref 10), some (.ref a), some (.long b), none], [.int ((S.2.1 405 10) + 1), .ref 10], h0, 0, 0)) rfl (Nat.le_of_ble_eq_true rfl) (Nat.le_of_ble_eq_true rfl) ?_
    refine hr_put ok_Bo_setLimit rfl hR (kd := 4) (hs_k hR (a := 10) rfl) rfl (Nat.le_of_ble_eq_true rfl) (Nat.le_of_ble_eq_true rfl) rfl (S' := (hpI S 405 10 ((S.2.1 405 10) + 1))) rfl (hWT.up hR.2.2 rfl rfl rfl) (pc' := 17) rfl (Nat.le_of_ble_eq_true rfl) (Nat.le_of_ble_eq_true rfl) (fun h18 hR19 g20 => ?_)
    have f21 := hF.tr hF.rf g20
    refine am_drop 0 ?_
    cases hd; exact K2 h18 hR19 f21 hE.rf
def h_Bo_dropLimit (a : Nat) (S : hS) : Option (hS) := (if ((S.2.1 1002 a) : Int32) = 0 then (some S) else (some (hpI S 405 10 ((S.2.1 405 10) - 1)))).bind fun (u1 : hS) => (some (hpI u1 1002 a 0))
set_option maxHeartbeats 4000000 in
set_option maxRecDepth 100000 in
theorem c_Bo_dropLimit (a : Nat) (S : hS) (h0 : am_H) (hR : RH S h0) (ha : hK S.1 a 10) (q : hS) (hd : h_Bo_dropLimit a S = some q) : am_Me am_Pr none 0 0 0 0 118 [.ref 10, .ref a] h0 (hQv q S.1 h0) := by
  refine am_enter (d := hd_Bo_dropLimit) rfl (by decide +kernel) (Nat.le_of_ble_eq_true rfl) ?_
  show am_S _ _ _ _ _ _ _ (0, [some (.ref 10), some (.ref a)], [], h0, 0, 0) _
  unfold h_Bo_dropLimit at hd
  refine am_steps ok_Bo_dropLimit 1 (x' := (1, [some (.ref 10), some (.ref a)], [.ref a], h0, 0, 0)) rfl (Nat.le_of_ble_eq_true rfl) (Nat.le_of_ble_eq_true rfl) ?_
  refine hr_get ok_Bo_dropLimit rfl hR (kd := 10) ha rfl (Nat.le_of_ble_eq_true rfl) (Nat.le_of_ble_eq_true rfl) (v := .int (S.2.1 1002 a)) rfl (pc' := 4) rfl (Nat.le_of_ble_eq_true rfl) (Nat.le_of_ble_eq_true rfl) ?_
  refine am_steps ok_Bo_dropLimit 1 (x' := (if ((S.2.1 1002 a) : Int32) = 0 then 17 else 7, [some (.ref 10), some (.ref a)], [], h0, 0, 0)) rfl (Nat.le_of_ble_eq_true rfl) (Nat.le_of_ble_eq_true rfl) ?_
  obtain ⟨u1, hA3, hB4⟩ := Option.bind_eq_some_iff.mp hd; clear hd
  have K2 : ∀ h' : am_H, RH u1 h' → hF h0 h' → hE S.1 u1.1 → am_S am_Pr none 0 0 0 0 118 (17, [none, some (.ref a)], [], h', 0, 0) (hQv q S.1 h0) := by
    have hd := hB4
    intro h5 hR6 f7 e8
    refine am_steps ok_Bo_dropLimit 2 (x' := (19, [none, some (.ref a)], [.int 0, .ref a], h5, 0, 0)) rfl (Nat.le_of_ble_eq_true rfl) (Nat.le_of_ble_eq_true rfl) ?_
    refine hr_put ok_Bo_dropLimit rfl hR6 (kd := 10) (ha.up e8) rfl (Nat.le_of_ble_eq_true rfl) (Nat.le_of_ble_eq_true rfl) rfl (S' := (hpI u1 1002 a 0)) rfl (hWT.up hR6.2.2 rfl rfl rfl) (pc' := 22) rfl (Nat.le_of_ble_eq_true rfl) (Nat.le_of_ble_eq_true rfl) (fun h9 hR10 g11 => ?_)
    have f12 := hF.tr f7 g11
    cases hd; exact am_ret ok_Bo_dropLimit rfl (Nat.le_of_ble_eq_true rfl) (Nat.le_of_ble_eq_true rfl) ⟨rfl, hR10, f12, (hE.rf.tr e8)⟩
  clear hB4; have hd := hA3; clear hA3
  refine am_if (fun hc13 => ?_) (fun hc13 => ?_)
  · rw [if_pos hc13] at hd
    refine am_drop 0 ?_
    cases hd; exact K2 h0 hR hF.rf hE.rf
  · rw [if_neg hc13] at hd
    refine am_steps ok_Bo_dropLimit 2 (x' := (9, [some (.ref 10), some (.ref a)], [.ref 10, .ref 10], h0, 0, 0)) rfl (Nat.le_of_ble_eq_true rfl) (Nat.le_of_ble_eq_true rfl) ?_
    refine hr_get ok_Bo_dropLimit rfl hR (kd := 4) (hs_k hR (a := 10) rfl) rfl (Nat.le_of_ble_eq_true rfl) (Nat.le_of_ble_eq_true rfl) (v := .int (S.2.1 405 10)) rfl (pc' := 12) rfl (Nat.le_of_ble_eq_true rfl) (Nat.le_of_ble_eq_true rfl) ?_
    refine am_steps ok_Bo_dropLimit 2 (x' := (14, [some (.ref 10), some (.ref a)], [.int ((S.2.1 405 10) - 1), .ref 10], h0, 0, 0)) rfl (Nat.le_of_ble_eq_true rfl) (Nat.le_of_ble_eq_true rfl) ?_
    refine hr_put ok_Bo_dropLimit rfl hR (kd := 4) (hs_k hR (a := 10) rfl) rfl (Nat.le_of_ble_eq_true rfl) (Nat.le_of_ble_eq_true rfl) rfl (S' := (hpI S 405 10 ((S.2.1 405 10) - 1))) rfl (hWT.up hR.2.2 rfl rfl rfl) (pc' := 17) rfl (Nat.le_of_ble_eq_true rfl) (Nat.le_of_ble_eq_true rfl) (fun h14 hR15 g16 => ?_)
    have f17 := hF.tr hF.rf g16
    refine am_drop 0 ?_
    cases hd; exact K2 h14 hR15 f17 hE.rf
def h_Bo_pledge (a : Int32) (b : Int32) (c : Int64) (S : hS) : Option (hS) := (h_Bo_creditIfPledged a b c S).bind fun q1 => ((h_Bo_setCredit a q1 S).bind fun q9 => ((h_Bo_account a b q9).bind fun q20 => (some (hpL q20.2 1003 q20.1 c))))
set_option maxHeartbeats 4000000 in
set_option maxRecDepth 100000 in
theorem c_Bo_pledge (a : Int32) (b : Int32) (c : Int64) (S : hS) (h0 : am_H) (hR : RH S h0)  (q : hS) (hd : h_Bo_pledge a b c S = some q) : am_Me am_Pr none 4 98 2 20 125 [.ref 10, .int a, .int b, .long c] h0 (hQv q S.1 h0) := by
  refine am_enter (d := hd_Bo_pledge) rfl (by decide +kernel) (Nat.le_of_ble_eq_true rfl) ?_
  show am_S _ _ _ _ _ _ _ (0, [some (.ref 10), some (.int a), some (.int b), some (.long c), none], [], h0, 0, 0) _
  unfold h_Bo_pledge at hd
  refine am_steps ok_Bo_pledge 6 (x' := (6, [some (.ref 10), some (.int a), some (.int b), some (.long c), none], [.long c, .int b, .int a, .ref 10, .int a, .ref 10], h0, 0, 0)) rfl (Nat.le_of_ble_eq_true rfl) (Nat.le_of_ble_eq_true rfl) ?_
  obtain ⟨q1, hq2, hd3⟩ := Option.bind_eq_some_iff.mp hd; clear hd; have hd := hd3; clear hd3
  refine ar_cv ok_Bo_pledge hk_Bo_creditIfPledged rfl rfl (As := [.int a, .int b, .long c]) (ad := 10) (rest := [.int a, .ref 10]) rfl rfl (hR.ob (hs_k hR (a := 10) rfl) (Nat.le_of_ble_eq_true rfl)) (Nat.le_of_ble_eq_true rfl) (c_Bo_creditIfPledged a b c S h0 hR  q1 hq2) (Nat.le_of_ble_eq_true rfl) (Nat.le_of_ble_eq_true rfl) (Nat.le_of_ble_eq_true rfl) (Nat.le_of_ble_eq_true rfl) (pc' := 9) rfl (fun r4 h6 z5 => ?_)
  obtain ⟨rfl, z8⟩ := z5; rw [z8]
  show am_S _ _ _ _ _ _ _ (9, [some (.ref 10), some (.int a), some (.int b), some (.long c), none], [.long q1, .int a, .ref 10], h0, 0, 0) _
  obtain ⟨q9, hq10, hd11⟩ := Option.bind_eq_some_iff.mp hd; clear hd; have hd := hd11; clear hd11
  refine ar_cv ok_Bo_pledge hk_Bo_setCredit rfl rfl (As := [.int a, .long q1]) (ad := 10) (rest := []) rfl rfl (hR.ob (hs_k hR (a := 10) rfl) (Nat.le_of_ble_eq_true rfl)) (Nat.le_of_ble_eq_true rfl) (c_Bo_setCredit a q1 S h0 hR  q9 hq10) (Nat.le_of_ble_eq_true rfl) (Nat.le_of_ble_eq_true rfl) (Nat.le_of_ble_eq_true rfl) (Nat.le_of_ble_eq_true rfl) (pc' := 12) rfl (fun r12 h14 z13 => ?_)
  obtain ⟨rfl, hR16, g17, e18⟩ := z13
  have f19 := hF.tr hF.rf g17
  show am_S _ _ _ _ _ _ _ (12, [some (.ref 10), some (.int a), some (.int b), some (.long c), none], [], h14, 1, 10) _
  refine am_steps ok_Bo_pledge 3 (x' := (15, [some (.ref 10), some (.int a), some (.int b), some (.long c), none], [.int b, .int a, .ref 10], h14, 1, 10)) rfl (Nat.le_of_ble_eq_true rfl) (Nat.le_of_ble_eq_true rfl) ?_
  obtain ⟨q20, hq21, hd22⟩ := Option.bind_eq_some_iff.mp hd; clear hd; have hd := hd22; clear hd22
  refine ar_cv ok_Bo_pledge hk_Bo_account rfl rfl (As := [.int a, .int b]) (ad := 10) (rest := []) rfl rfl (hR16.ob (hs_k hR16 (a := 10) rfl) (Nat.le_of_ble_eq_true rfl)) (Nat.le_of_ble_eq_true rfl) (c_Bo_account a b q9 h14 hR16  q20 hq21) (Nat.le_of_ble_eq_true rfl) (Nat.le_of_ble_eq_true rfl) (Nat.le_of_ble_eq_true rfl) (Nat.le_of_ble_eq_true rfl) (pc' := 18) rfl (fun r23 h25 z24 => ?_)
  obtain ⟨rfl, hk26, hR27, g28, e29⟩ := z24
  have f30 := hF.tr f19 g28
  show am_S _ _ _ _ _ _ _ (18, [some (.ref 10), some (.int a), some (.int b), some (.long c), none], [.ref q20.1], h25, 2, 20) _
  refine am_steps ok_Bo_pledge 1 (x' := (19, [some (.ref 10), some (.int a), some (.int b), some (.long c), none], [.long c, .ref q20.1], h25, 2, 20)) rfl (Nat.le_of_ble_eq_true rfl) (Nat.le_of_ble_eq_true rfl) ?_
  refine hr_put ok_Bo_pledge rfl hR27 (kd := 10) (hk26 _ rfl) rfl (Nat.le_of_ble_eq_true rfl) (Nat.le_of_ble_eq_true rfl) rfl (S' := (hpL q20.2 1003 q20.1 c)) rfl (hWT.up hR27.2.2 rfl rfl rfl) (pc' := 22) rfl (Nat.le_of_ble_eq_true rfl) (Nat.le_of_ble_eq_true rfl) (fun h31 hR32 g33 => ?_)
  have f34 := hF.tr f30 g33
  cases hd; exact am_ret ok_Bo_pledge rfl (Nat.le_of_ble_eq_true rfl) (Nat.le_of_ble_eq_true rfl) ⟨rfl, hR32, f34, ((hE.rf.tr e18).tr e29)⟩
