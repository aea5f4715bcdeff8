/-! Methods of the class as functions of its state. -/
def hl_De_findCodes_2 : Nat → Int32 → hS → Option (Int32 × hS)
  | 0, _, _ => none
  | fu + 1, v2, s => if ((s.2.1 810 2) : Int32) ≤ v2 then (some (0, s)) else ((am_ix v2 12).bind fun j2 => ((if ((s.2.2.2.2.1 4 j2) : Int32) = 0 then ((h_Bo_findParticipant (s.2.2.2.2.1 3 j2) s).bind fun q16 => (some q16)) else ((h_Bo_findAsset (s.2.2.2.2.1 3 j2) s).bind fun q24 => (some q24))).bind fun (u5 : Int32) => (if ¬ (((hpA s 5 j2 u5).2.2.2.2.1 5 j2) : Int32) = (-1) then (hl_De_findCodes_2 fu (v2 + 1) (hpA s 5 j2 u5)) else (if ((s.2.2.2.2.1 4 j2) : Int32) = 0 then (some (4, (hpA s 5 j2 u5))) else (some (5, (hpA s 5 j2 u5)))))))
set_option maxHeartbeats 4000000 in
set_option maxRecDepth 100000 in
theorem Lc_De_findCodes_2 (sh0 : List (Nat × Nat)) (h0 : am_H) : ∀ (fu : Nat) (v2 : Int32) (s : hS) (h : am_H), RH s h → hF h0 h → hE sh0 s.1 → ∀ q : Int32 × hS, hl_De_findCodes_2 fu v2 s = some q → am_S am_Pr none 1 22 0 0 134 (2, [some (.ref 20), some (.ref 2), some (.int v2)], [], h, 0, 0) (hQr (.int q.1) q.2 sh0 h0) := by
  intro fu
  induction fu with
  | zero => intro v2 s h hR f he  q hd; cases hd
  | succ fu ih =>
    intro v2 s h hR f he  q hd
    unfold hl_De_findCodes_2 at hd
    refine am_steps ok_De_findCodes 2 (x' := (4, [some (.ref 20), some (.ref 2), some (.int v2)], [.ref 2, .int v2], h, 0, 0)) rfl (Nat.le_of_ble_eq_true rfl) (Nat.le_of_ble_eq_true rfl) ?_
    refine hr_get ok_De_findCodes rfl hR (kd := 8) (hs_k hR (a := 2) rfl) rfl (Nat.le_of_ble_eq_true rfl) (Nat.le_of_ble_eq_true rfl) (v := .int (s.2.1 810 2)) rfl (pc' := 7) rfl (Nat.le_of_ble_eq_true rfl) (Nat.le_of_ble_eq_true rfl) ?_
    refine am_steps ok_De_findCodes 1 (x' := (if ((s.2.1 810 2) : Int32) ≤ v2 then 85 else 10, [some (.ref 20), some (.ref 2), some (.int v2)], [], h, 0, 0)) rfl (Nat.le_of_ble_eq_true rfl) (Nat.le_of_ble_eq_true rfl) ?_
    refine am_if (fun hc1 => ?_) (fun hc1 => ?_)
    · rw [if_pos hc1] at hd
      refine am_steps ok_De_findCodes 1 (x' := (86, [some (.ref 20), some (.ref 2), some (.int v2)], [.int 0], h, 0, 0)) rfl (Nat.le_of_ble_eq_true rfl) (Nat.le_of_ble_eq_true rfl) ?_
      cases hd; exact am_ret ok_De_findCodes rfl (Nat.le_of_ble_eq_true rfl) (Nat.le_of_ble_eq_true rfl) ⟨rfl, hR, f, he⟩
    · rw [if_neg hc1] at hd
      refine am_steps ok_De_findCodes 1 (x' := (11, [some (.ref 20), some (.ref 2), some (.int v2)], [.ref 2], h, 0, 0)) rfl (Nat.le_of_ble_eq_true rfl) (Nat.le_of_ble_eq_true rfl) ?_
      refine hr_get ok_De_findCodes rfl hR (kd := 8) (hs_k hR (a := 2) rfl) rfl (Nat.le_of_ble_eq_true rfl) (Nat.le_of_ble_eq_true rfl) (v := .ref 5) (congrArg va_rf (hR.2.2.2.2.1 (809, 2, 5) (by decide))) (pc' := 14) rfl (Nat.le_of_ble_eq_true rfl) (Nat.le_of_ble_eq_true rfl) ?_
      refine am_steps ok_De_findCodes 2 (x' := (16, [some (.ref 20), some (.ref 2), some (.int v2)], [.ref 2, .int v2, .ref 5], h, 0, 0)) rfl (Nat.le_of_ble_eq_true rfl) (Nat.le_of_ble_eq_true rfl) ?_
      refine hr_get ok_De_findCodes rfl hR (kd := 8) (hs_k hR (a := 2) rfl) rfl (Nat.le_of_ble_eq_true rfl) (Nat.le_of_ble_eq_true rfl) (v := .ref 4) (congrArg va_rf (hR.2.2.2.2.1 (808, 2, 4) (by decide))) (pc' := 19) rfl (Nat.le_of_ble_eq_true rfl) (Nat.le_of_ble_eq_true rfl) ?_
      refine am_steps ok_De_findCodes 1 (x' := (20, [some (.ref 20), some (.ref 2), some (.int v2)], [.int v2, .ref 4, .int v2, .ref 5], h, 0, 0)) rfl (Nat.le_of_ble_eq_true rfl) (Nat.le_of_ble_eq_true rfl) ?_
      obtain ⟨j2, hx3, hd4⟩ := Option.bind_eq_some_iff.mp hd; clear hd; have hd := hd4; clear hd4
      refine hr_bald ok_De_findCodes rfl hR (kd := 23) (hs_k hR (a := 4) rfl) (by decide) (hs_ln hR rfl) hx3 (pc' := 21) rfl (Nat.le_of_ble_eq_true rfl) (Nat.le_of_ble_eq_true rfl) ?_
      refine am_steps ok_De_findCodes 1 (x' := (if ((s.2.2.2.2.1 4 j2) : Int32) = 0 then 40 else 24, [some (.ref 20), some (.ref 2), some (.int v2)], [.int v2, .ref 5], h, 0, 0)) rfl (Nat.le_of_ble_eq_true rfl) (Nat.le_of_ble_eq_true rfl) ?_
      obtain ⟨u5, hA7, hB8⟩ := Option.bind_eq_some_iff.mp hd; clear hd
      have K6 : am_S am_Pr none 1 22 0 0 134 (53, [some (.ref 20), some (.ref 2), some (.int v2)], [.int u5, .int v2, .ref 5], h, 0, 0) (hQr (.int q.1) q.2 sh0 h0) := by
        have hd := hB8
        refine hr_iast ok_De_findCodes rfl hR (hs_k hR (a := 5) rfl) (hs_ln hR rfl) hx3 (pc' := 54) rfl (Nat.le_of_ble_eq_true rfl) (Nat.le_of_ble_eq_true rfl) (fun h9 hR10 g11 => ?_)
        have f12 := hF.tr f g11
        refine am_steps ok_De_findCodes 1 (x' := (55, [some (.ref 20), some (.ref 2), some (.int v2)], [.ref 2], h9, 0, 0)) rfl (Nat.le_of_ble_eq_true rfl) (Nat.le_of_ble_eq_true rfl) ?_
        refine hr_get ok_De_findCodes rfl hR10 (kd := 8) (hs_k hR10 (a := 2) rfl) rfl (Nat.le_of_ble_eq_true rfl) (Nat.le_of_ble_eq_true rfl) (v := .ref 5) (congrArg va_rf (hR10.2.2.2.2.1 (809, 2, 5) (by decide))) (pc' := 58) rfl (Nat.le_of_ble_eq_true rfl) (Nat.le_of_ble_eq_true rfl) ?_
        refine am_steps ok_De_findCodes 1 (x' := (59, [some (.ref 20), some (.ref 2), some (.int v2)], [.int v2, .ref 5], h9, 0, 0)) rfl (Nat.le_of_ble_eq_true rfl) (Nat.le_of_ble_eq_true rfl) ?_
        refine hr_iald ok_De_findCodes rfl hR10 (hs_k hR10 (a := 5) rfl) (hs_ln hR10 rfl) hx3 (pc' := 60) rfl (Nat.le_of_ble_eq_true rfl) (Nat.le_of_ble_eq_true rfl) ?_
        show am_S _ _ _ _ _ _ _ (60, [some (.ref 20), some (.ref 2), some (.int v2)], [.int ((hpA s 5 j2 u5).2.2.2.2.1 5 j2)], h9, 0, 0) _
        refine am_steps ok_De_findCodes 2 (x' := (if ¬ (((hpA s 5 j2 u5).2.2.2.2.1 5 j2) : Int32) = (-1) then 79 else 64, [some (.ref 20), some (.ref 2), some (.int v2)], [], h9, 0, 0)) rfl (Nat.le_of_ble_eq_true rfl) (Nat.le_of_ble_eq_true rfl) ?_
        refine am_if (fun hc13 => ?_) (fun hc13 => ?_)
        · rw [if_pos hc13] at hd
          refine am_steps ok_De_findCodes 2 (x' := (2, [some (.ref 20), some (.ref 2), some (.int (v2 + 1))], [], h9, 0, 0)) rfl (Nat.le_of_ble_eq_true rfl) (Nat.le_of_ble_eq_true rfl) ?_
          exact ih (v2 + 1) (hpA s 5 j2 u5) h9 hR10 f12 he  q hd
        · rw [if_neg hc13] at hd
          refine am_steps ok_De_findCodes 1 (x' := (65, [some (.ref 20), some (.ref 2), some (.int v2)], [.ref 2], h9, 0, 0)) rfl (Nat.le_of_ble_eq_true rfl) (Nat.le_of_ble_eq_true rfl) ?_
          refine hr_get ok_De_findCodes rfl hR10 (kd := 8) (hs_k hR10 (a := 2) rfl) rfl (Nat.le_of_ble_eq_true rfl) (Nat.le_of_ble_eq_true rfl) (v := .ref 4) (congrArg va_rf (hR10.2.2.2.2.1 (808, 2, 4) (by decide))) (pc' := 68) rfl (Nat.le_of_ble_eq_true rfl) (Nat.le_of_ble_eq_true rfl) ?_
          refine am_steps ok_De_findCodes 1 (x' := (69, [some (.ref 20), some (.ref 2), some (.int v2)], [.int v2, .ref 4], h9, 0, 0)) rfl (Nat.le_of_ble_eq_true rfl) (Nat.le_of_ble_eq_true rfl) ?_
          refine hr_bald ok_De_findCodes rfl hR10 (kd := 23) (hs_k hR10 (a := 4) rfl) (by decide) (hs_ln hR10 rfl) hx3 (pc' := 70) rfl (Nat.le_of_ble_eq_true rfl) (Nat.le_of_ble_eq_true rfl) ?_
          show am_S _ _ _ _ _ _ _ (70, [some (.ref 20), some (.ref 2), some (.int v2)], [.int (s.2.2.2.2.1 4 j2)], h9, 0, 0) _
          refine am_steps ok_De_findCodes 1 (x' := (if ((s.2.2.2.2.1 4 j2) : Int32) = 0 then 77 else 73, [some (.ref 20), some (.ref 2), some (.int v2)], [], h9, 0, 0)) rfl (Nat.le_of_ble_eq_true rfl) (Nat.le_of_ble_eq_true rfl) ?_
          refine am_if (fun hc14 => ?_) (fun hc14 => ?_)
          · rw [if_pos hc14] at hd
            refine am_steps ok_De_findCodes 1 (x' := (78, [some (.ref 20), some (.ref 2), some (.int v2)], [.int 4], h9, 0, 0)) rfl (Nat.le_of_ble_eq_true rfl) (Nat.le_of_ble_eq_true rfl) ?_
            cases hd; exact am_ret ok_De_findCodes rfl (Nat.le_of_ble_eq_true rfl) (Nat.le_of_ble_eq_true rfl) ⟨rfl, hR10, f12, he⟩
          · rw [if_neg hc14] at hd
            refine am_steps ok_De_findCodes 2 (x' := (78, [some (.ref 20), some (.ref 2), some (.int v2)], [.int 5], h9, 0, 0)) rfl (Nat.le_of_ble_eq_true rfl) (Nat.le_of_ble_eq_true rfl) ?_
            cases hd; exact am_ret ok_De_findCodes rfl (Nat.le_of_ble_eq_true rfl) (Nat.le_of_ble_eq_true rfl) ⟨rfl, hR10, f12, he⟩
      clear hB8; have hd := hA7; clear hA7
      refine am_if (fun hc15 => ?_) (fun hc15 => ?_)
      · rw [if_pos hc15] at hd
        refine am_steps ok_De_findCodes 1 (x' := (41, [some (.ref 20), some (.ref 2), some (.int v2)], [.ref 20, .int v2, .ref 5], h, 0, 0)) rfl (Nat.le_of_ble_eq_true rfl) (Nat.le_of_ble_eq_true rfl) ?_
        refine hr_get ok_De_findCodes rfl hR (kd := 5) (hs_k hR (a := 20) rfl) rfl (Nat.le_of_ble_eq_true rfl) (Nat.le_of_ble_eq_true rfl) (v := .ref 10) (congrArg va_rf (hR.2.2.2.2.1 (500, 20, 10) (by decide))) (pc' := 44) rfl (Nat.le_of_ble_eq_true rfl) (Nat.le_of_ble_eq_true rfl) ?_
        refine am_steps ok_De_findCodes 1 (x' := (45, [some (.ref 20), some (.ref 2), some (.int v2)], [.ref 2, .ref 10, .int v2, .ref 5], h, 0, 0)) rfl (Nat.le_of_ble_eq_true rfl) (Nat.le_of_ble_eq_true rfl) ?_
        refine hr_get ok_De_findCodes rfl hR (kd := 8) (hs_k hR (a := 2) rfl) rfl (Nat.le_of_ble_eq_true rfl) (Nat.le_of_ble_eq_true rfl) (v := .ref 3) (congrArg va_rf (hR.2.2.2.2.1 (807, 2, 3) (by decide))) (pc' := 48) rfl (Nat.le_of_ble_eq_true rfl) (Nat.le_of_ble_eq_true rfl) ?_
        refine am_steps ok_De_findCodes 1 (x' := (49, [some (.ref 20), some (.ref 2), some (.int v2)], [.int v2, .ref 3, .ref 10, .int v2, .ref 5], h, 0, 0)) rfl (Nat.le_of_ble_eq_true rfl) (Nat.le_of_ble_eq_true rfl) ?_
        refine hr_iald ok_De_findCodes rfl hR (hs_k hR (a := 3) rfl) (hs_ln hR rfl) hx3 (pc' := 50) rfl (Nat.le_of_ble_eq_true rfl) (Nat.le_of_ble_eq_true rfl) ?_
        obtain ⟨q16, hq17, hd18⟩ := Option.bind_eq_some_iff.mp hd; clear hd; have hd := hd18; clear hd18
        refine ar_cv ok_De_findCodes hk_Bo_findParticipant rfl rfl (As := [.int (s.2.2.2.2.1 3 j2)]) (ad := 10) (rest := [.int v2, .ref 5]) rfl rfl (hR.ob (hs_k hR (a := 10) rfl) (Nat.le_of_ble_eq_true rfl)) (Nat.le_of_ble_eq_true rfl) (c_Bo_findParticipant (s.2.2.2.2.1 3 j2) s h hR  q16 hq17) (Nat.le_of_ble_eq_true rfl) (Nat.le_of_ble_eq_true rfl) (Nat.le_of_ble_eq_true rfl) (Nat.le_of_ble_eq_true rfl) (pc' := 53) rfl (fun r19 h21 z20 => ?_)
        obtain ⟨rfl, z23⟩ := z20; rw [z23]
        show am_S _ _ _ _ _ _ _ (53, [some (.ref 20), some (.ref 2), some (.int v2)], [.int q16, .int v2, .ref 5], h, 0, 0) _
        cases hd; exact K6 
      · rw [if_neg hc15] at hd
        refine am_steps ok_De_findCodes 1 (x' := (25, [some (.ref 20), some (.ref 2), some (.int v2)], [.ref 20, .int v2, .ref 5], h, 0, 0)) rfl (Nat.le_of_ble_eq_true rfl) (Nat.le_of_ble_eq_true rfl) ?_
        refine hr_get ok_De_findCodes rfl hR (kd := 5) (hs_k hR (a := 20) rfl) rfl (Nat.le_of_ble_eq_true rfl) (Nat.le_of_ble_eq_true rfl) (v := .ref 10) (congrArg va_rf (hR.2.2.2.2.1 (500, 20, 10) (by decide))) (pc' := 28) rfl (Nat.le_of_ble_eq_true rfl) (Nat.le_of_ble_eq_true rfl) ?_
        refine am_steps ok_De_findCodes 1 (x' := (29, [some (.ref 20), some (.ref 2), some (.int v2)], [.ref 2, .ref 10, .int v2, .ref 5], h, 0, 0)) rfl (Nat.le_of_ble_eq_true rfl) (Nat.le_of_ble_eq_true rfl) ?_
        refine hr_get ok_De_findCodes rfl hR (kd := 8) (hs_k hR (a := 2) rfl) rfl (Nat.le_of_ble_eq_true rfl) (Nat.le_of_ble_eq_true rfl) (v := .ref 3) (congrArg va_rf (hR.2.2.2.2.1 (807, 2, 3) (by decide))) (pc' := 32) rfl (Nat.le_of_ble_eq_true rfl) (Nat.le_of_ble_eq_true rfl) ?_
        refine am_steps ok_De_findCodes 1 (x' := (33, [some (.ref 20), some (.ref 2), some (.int v2)], [.int v2, .ref 3, .ref 10, .int v2, .ref 5], h, 0, 0)) rfl (Nat.le_of_ble_eq_true rfl) (Nat.le_of_ble_eq_true rfl) ?_
        refine hr_iald ok_De_findCodes rfl hR (hs_k hR (a := 3) rfl) (hs_ln hR rfl) hx3 (pc' := 34) rfl (Nat.le_of_ble_eq_true rfl) (Nat.le_of_ble_eq_true rfl) ?_
        obtain ⟨q24, hq25, hd26⟩ := Option.bind_eq_some_iff.mp hd; clear hd; have hd := hd26; clear hd26
        refine ar_cv ok_De_findCodes hk_Bo_findAsset rfl rfl (As := [.int (s.2.2.2.2.1 3 j2)]) (ad := 10) (rest := [.int v2, .ref 5]) rfl rfl (hR.ob (hs_k hR (a := 10) rfl) (Nat.le_of_ble_eq_true rfl)) (Nat.le_of_ble_eq_true rfl) (c_Bo_findAsset (s.2.2.2.2.1 3 j2) s h hR  q24 hq25) (Nat.le_of_ble_eq_true rfl) (Nat.le_of_ble_eq_true rfl) (Nat.le_of_ble_eq_true rfl) (Nat.le_of_ble_eq_true rfl) (pc' := 37) rfl (fun r27 h29 z28 => ?_)
        obtain ⟨rfl, z31⟩ := z28; rw [z31]
        show am_S _ _ _ _ _ _ _ (37, [some (.ref 20), some (.ref 2), some (.int v2)], [.int q24, .int v2, .ref 5], h, 0, 0) _
        refine am_steps ok_De_findCodes 1 (x' := (53, [some (.ref 20), some (.ref 2), some (.int v2)], [.int q24, .int v2, .ref 5], h, 0, 0)) rfl (Nat.le_of_ble_eq_true rfl) (Nat.le_of_ble_eq_true rfl) ?_
        cases hd; exact K6 
def h_De_findCodes  (S : hS) : Option (Int32 × hS) := hl_De_findCodes_2 100000 0 S
set_option maxHeartbeats 4000000 in
set_option maxRecDepth 100000 in
theorem c_De_findCodes  (S : hS) (h0 : am_H) (hR : RH S h0)  (q : Int32 × hS) (hd : h_De_findCodes  S = some q) : am_Me am_Pr none 1 22 0 0 134 [.ref 20, .ref 2] h0 (hQr (.int q.1) q.2 S.1 h0) := by
  refine am_enter (d := hd_De_findCodes) rfl (by decide +kernel) (Nat.le_of_ble_eq_true rfl) ?_
  show am_S _ _ _ _ _ _ _ (0, [some (.ref 20), some (.ref 2), none], [], h0, 0, 0) _
  unfold h_De_findCodes at hd
  refine am_steps ok_De_findCodes 2 (x' := (2, [some (.ref 20), some (.ref 2), some (.int 0)], [], h0, 0, 0)) rfl (Nat.le_of_ble_eq_true rfl) (Nat.le_of_ble_eq_true rfl) ?_
  exact Lc_De_findCodes_2 S.1 h0 100000 0 S h0 hR hF.rf hE.rf  q hd
def h_Me_takesReference  (S : hS) : Option (Int32) := if ((S.2.1 804 2) : Int32) = 13 then (some 0) else (if ((S.2.1 804 2) : Int32) = 14 then (some 0) else (some 1))
set_option maxHeartbeats 4000000 in
set_option maxRecDepth 100000 in
theorem c_Me_takesReference  (S : hS) (h0 : am_H) (hR : RH S h0)  (q : Int32) (hd : h_Me_takesReference  S = some q) : am_Me am_Pr none 0 0 0 0 186 [.ref 2] h0 (am_is (some (.int q)) h0) := by
  refine am_enter (d := hd_Me_takesReference) rfl (by decide +kernel) (Nat.le_of_ble_eq_true rfl) ?_
  show am_S _ _ _ _ _ _ _ (0, [some (.ref 2)], [], h0, 0, 0) _
  unfold h_Me_takesReference at hd
  refine am_steps ok_Me_takesReference 1 (x' := (1, [some (.ref 2)], [.ref 2], h0, 0, 0)) rfl (Nat.le_of_ble_eq_true rfl) (Nat.le_of_ble_eq_true rfl) ?_
  refine hr_get ok_Me_takesReference rfl hR (kd := 8) (hs_k hR (a := 2) rfl) rfl (Nat.le_of_ble_eq_true rfl) (Nat.le_of_ble_eq_true rfl) (v := .int (S.2.1 804 2)) rfl (pc' := 4) rfl (Nat.le_of_ble_eq_true rfl) (Nat.le_of_ble_eq_true rfl) ?_
  refine am_steps ok_Me_takesReference 2 (x' := (if ((S.2.1 804 2) : Int32) = 13 then 22 else 9, [some (.ref 2)], [], h0, 0, 0)) rfl (Nat.le_of_ble_eq_true rfl) (Nat.le_of_ble_eq_true rfl) ?_
  refine am_if (fun hc1 => ?_) (fun hc1 => ?_)
  · rw [if_pos hc1] at hd
    refine am_steps ok_Me_takesReference 1 (x' := (23, [some (.ref 2)], [.int 0], h0, 0, 0)) rfl (Nat.le_of_ble_eq_true rfl) (Nat.le_of_ble_eq_true rfl) ?_
    cases hd; exact am_ret ok_Me_takesReference rfl (Nat.le_of_ble_eq_true rfl) (Nat.le_of_ble_eq_true rfl) ⟨rfl, rfl⟩
  · rw [if_neg hc1] at hd
    refine am_steps ok_Me_takesReference 1 (x' := (10, [some (.ref 2)], [.ref 2], h0, 0, 0)) rfl (Nat.le_of_ble_eq_true rfl) (Nat.le_of_ble_eq_true rfl) ?_
    refine hr_get ok_Me_takesReference rfl hR (kd := 8) (hs_k hR (a := 2) rfl) rfl (Nat.le_of_ble_eq_true rfl) (Nat.le_of_ble_eq_true rfl) (v := .int (S.2.1 804 2)) rfl (pc' := 13) rfl (Nat.le_of_ble_eq_true rfl) (Nat.le_of_ble_eq_true rfl) ?_
    refine am_steps ok_Me_takesReference 2 (x' := (if ((S.2.1 804 2) : Int32) = 14 then 22 else 18, [some (.ref 2)], [], h0, 0, 0)) rfl (Nat.le_of_ble_eq_true rfl) (Nat.le_of_ble_eq_true rfl) ?_
    refine am_if (fun hc2 => ?_) (fun hc2 => ?_)
    · rw [if_pos hc2] at hd
      refine am_steps ok_Me_takesReference 1 (x' := (23, [some (.ref 2)], [.int 0], h0, 0, 0)) rfl (Nat.le_of_ble_eq_true rfl) (Nat.le_of_ble_eq_true rfl) ?_
      cases hd; exact am_ret ok_Me_takesReference rfl (Nat.le_of_ble_eq_true rfl) (Nat.le_of_ble_eq_true rfl) ⟨rfl, rfl⟩
    · rw [if_neg hc2] at hd
      refine am_steps ok_Me_takesReference 2 (x' := (23, [some (.ref 2)], [.int 1], h0, 0, 0)) rfl (Nat.le_of_ble_eq_true rfl) (Nat.le_of_ble_eq_true rfl) ?_
      cases hd; exact am_ret ok_Me_takesReference rfl (Nat.le_of_ble_eq_true rfl) (Nat.le_of_ble_eq_true rfl) ⟨rfl, rfl⟩
def hl_De_findSent_2 : Nat → Int32 → hS → Option (Option Nat)
  | 0, _, _ => none
  | fu + 1, v2, s => (h_AL14_size  s).bind fun q1 => (if (q1 : Int32) ≤ v2 then (some none) else ((h_AL14_get v2 s).bind fun q10 => ((q10).bind fun b18 => (if ¬ ((s.2.1 1200 b18) : Int32) = (s.2.1 813 2) then (hl_De_findSent_2 fu (v2 + 1) s) else (if ¬ ((lg_cmp (s.2.2.1 1201 b18) (s.2.2.1 806 2)) : Int32) = 0 then (hl_De_findSent_2 fu (v2 + 1) s) else (some (some b18)))))))
set_option maxHeartbeats 4000000 in
set_option maxRecDepth 100000 in
theorem Lc_De_findSent_2 (s : hS) (h : am_H) (hR : RH s h) : ∀ (fu : Nat) (v2 : Int32), ∀ (q : Option Nat), hl_De_findSent_2 fu v2 s = some q → am_S am_Pr none 3 64 0 0 135 (2, [some (.ref 20), some (.ref 2), some (.int v2), none], [], h, 0, 0) (hPo (va_rf q) q 12 s.1 h) := by
  intro fu
  induction fu with
  | zero => intro v2  q hd; cases hd
  | succ fu ih =>
    intro v2  q hd
    unfold hl_De_findSent_2 at hd
    refine am_steps ok_De_findSent 2 (x' := (4, [some (.ref 20), some (.ref 2), some (.int v2), none], [.ref 20, .int v2], h, 0, 0)) rfl (Nat.le_of_ble_eq_true rfl) (Nat.le_of_ble_eq_true rfl) ?_
    refine hr_get ok_De_findSent rfl hR (kd := 5) (hs_k hR (a := 20) rfl) rfl (Nat.le_of_ble_eq_true rfl) (Nat.le_of_ble_eq_true rfl) (v := .ref 21) (congrArg va_rf (hR.2.2.2.2.1 (502, 20, 21) (by decide))) (pc' := 7) rfl (Nat.le_of_ble_eq_true rfl) (Nat.le_of_ble_eq_true rfl) ?_
    obtain ⟨q1, hq2, hd3⟩ := Option.bind_eq_some_iff.mp hd; clear hd; have hd := hd3; clear hd3
    refine ar_cv ok_De_findSent hk_AL_size rfl rfl (As := []) (ad := 21) (rest := [.int v2]) rfl rfl (hR.ob (hs_k hR (a := 21) rfl) (Nat.le_of_ble_eq_true rfl)) (Nat.le_of_ble_eq_true rfl) (c_AL14_size  s h hR  q1 hq2) (Nat.le_of_ble_eq_true rfl) (Nat.le_of_ble_eq_true rfl) (Nat.le_of_ble_eq_true rfl) (Nat.le_of_ble_eq_true rfl) (pc' := 10) rfl (fun r4 h6 z5 => ?_)
    obtain ⟨rfl, z8⟩ := z5; rw [z8]
    show am_S _ _ _ _ _ _ _ (10, [some (.ref 20), some (.ref 2), some (.int v2), none], [.int q1, .int v2], h, 0, 0) _
    refine am_steps ok_De_findSent 1 (x' := (if (q1 : Int32) ≤ v2 then 56 else 13, [some (.ref 20), some (.ref 2), some (.int v2), none], [], h, 0, 0)) rfl (Nat.le_of_ble_eq_true rfl) (Nat.le_of_ble_eq_true rfl) ?_
    refine am_if (fun hc9 => ?_) (fun hc9 => ?_)
    · rw [if_pos hc9] at hd
      refine am_steps ok_De_findSent 1 (x' := (57, [some (.ref 20), some (.ref 2), some (.int v2), none], [.null], h, 0, 0)) rfl (Nat.le_of_ble_eq_true rfl) (Nat.le_of_ble_eq_true rfl) ?_
      cases hd; exact am_ret ok_De_findSent rfl (Nat.le_of_ble_eq_true rfl) (Nat.le_of_ble_eq_true rfl) ⟨rfl, rfl, (fun _ hz => nomatch hz)⟩
    · rw [if_neg hc9] at hd
      refine am_steps ok_De_findSent 1 (x' := (14, [some (.ref 20), some (.ref 2), some (.int v2), none], [.ref 20], h, 0, 0)) rfl (Nat.le_of_ble_eq_true rfl) (Nat.le_of_ble_eq_true rfl) ?_
      refine hr_get ok_De_findSent rfl hR (kd := 5) (hs_k hR (a := 20) rfl) rfl (Nat.le_of_ble_eq_true rfl) (Nat.le_of_ble_eq_true rfl) (v := .ref 21) (congrArg va_rf (hR.2.2.2.2.1 (502, 20, 21) (by decide))) (pc' := 17) rfl (Nat.le_of_ble_eq_true rfl) (Nat.le_of_ble_eq_true rfl) ?_
      refine am_steps ok_De_findSent 1 (x' := (18, [some (.ref 20), some (.ref 2), some (.int v2), none], [.int v2, .ref 21], h, 0, 0)) rfl (Nat.le_of_ble_eq_true rfl) (Nat.le_of_ble_eq_true rfl) ?_
      obtain ⟨q10, hq11, hd12⟩ := Option.bind_eq_some_iff.mp hd; clear hd; have hd := hd12; clear hd12
      refine ar_cv ok_De_findSent hk_AL_get rfl rfl (As := [.int v2]) (ad := 21) (rest := []) rfl rfl (hR.ob (hs_k hR (a := 21) rfl) (Nat.le_of_ble_eq_true rfl)) (Nat.le_of_ble_eq_true rfl) (c_AL14_get v2 s h hR  q10 hq11) (Nat.le_of_ble_eq_true rfl) (Nat.le_of_ble_eq_true rfl) (Nat.le_of_ble_eq_true rfl) (Nat.le_of_ble_eq_true rfl) (pc' := 21) rfl (fun r13 h15 z14 => ?_)
      obtain ⟨rfl, z17, hk16⟩ := z14; rw [z17]
      show am_S _ _ _ _ _ _ _ (21, [some (.ref 20), some (.ref 2), some (.int v2), none], [va_rf q10], h, 0, 0) _
      obtain ⟨b18, hb19, hd20⟩ := Option.bind_eq_some_iff.mp hd; clear hd; have hd := hd20; clear hd20
      have hk21 := hk16 b18 hb19
      rw [hb19]
      show am_S _ _ _ _ _ _ _ (21, [some (.ref 20), some (.ref 2), some (.int v2), none], [.ref b18], h, 0, 0) _
      refine ao_cast (d0 := hd_De_findSent) rfl (x := 55) (a := 640) (b := 12) (by decide +kernel) rfl (by decide +kernel) (hR.ob hk21 (Nat.le_of_ble_eq_true rfl)) (pc' := 24) rfl ?_
      refine am_steps ok_De_findSent 2 (x' := (26, [some (.ref 20), some (.ref 2), some (.int v2), some (.ref b18)], [.ref b18], h, 0, 0)) rfl (Nat.le_of_ble_eq_true rfl) (Nat.le_of_ble_eq_true rfl) ?_
      refine hr_get ok_De_findSent rfl hR (kd := 12) hk21 rfl (Nat.le_of_ble_eq_true rfl) (Nat.le_of_ble_eq_true rfl) (v := .int (s.2.1 1200 b18)) rfl (pc' := 29) rfl (Nat.le_of_ble_eq_true rfl) (Nat.le_of_ble_eq_true rfl) ?_
      refine am_steps ok_De_findSent 1 (x' := (30, [some (.ref 20), some (.ref 2), some (.int v2), some (.ref b18)], [.ref 2, .int (s.2.1 1200 b18)], h, 0, 0)) rfl (Nat.le_of_ble_eq_true rfl) (Nat.le_of_ble_eq_true rfl) ?_
      refine hr_get ok_De_findSent rfl hR (kd := 8) (hs_k hR (a := 2) rfl) rfl (Nat.le_of_ble_eq_true rfl) (Nat.le_of_ble_eq_true rfl) (v := .int (s.2.1 813 2)) rfl (pc' := 33) rfl (Nat.le_of_ble_eq_true rfl) (Nat.le_of_ble_eq_true rfl) ?_
      refine am_steps ok_De_findSent 1 (x' := (if ¬ ((s.2.1 1200 b18) : Int32) = (s.2.1 813 2) then 50 else 36, [some (.ref 20), some (.ref 2), some (.int v2), some (.ref b18)], [], h, 0, 0)) rfl (Nat.le_of_ble_eq_true rfl) (Nat.le_of_ble_eq_true rfl) ?_
      refine am_if (fun hc22 => ?_) (fun hc22 => ?_)
      · rw [if_pos hc22] at hd
        refine am_steps ok_De_findSent 2 (x' := (2, [some (.ref 20), some (.ref 2), some (.int (v2 + 1)), some (.ref b18)], [], h, 0, 0)) rfl (Nat.le_of_ble_eq_true rfl) (Nat.le_of_ble_eq_true rfl) ?_
        refine am_drop 3 ?_
        exact ih (v2 + 1)  q hd
      · rw [if_neg hc22] at hd
        refine am_steps ok_De_findSent 1 (x' := (37, [some (.ref 20), some (.ref 2), some (.int v2), some (.ref b18)], [.ref b18], h, 0, 0)) rfl (Nat.le_of_ble_eq_true rfl) (Nat.le_of_ble_eq_true rfl) ?_
        refine hr_get ok_De_findSent rfl hR (kd := 12) hk21 rfl (Nat.le_of_ble_eq_true rfl) (Nat.le_of_ble_eq_true rfl) (v := .long (s.2.2.1 1201 b18)) rfl (pc' := 40) rfl (Nat.le_of_ble_eq_true rfl) (Nat.le_of_ble_eq_true rfl) ?_
        refine am_steps ok_De_findSent 1 (x' := (41, [some (.ref 20), some (.ref 2), some (.int v2), some (.ref b18)], [.ref 2, .long (s.2.2.1 1201 b18)], h, 0, 0)) rfl (Nat.le_of_ble_eq_true rfl) (Nat.le_of_ble_eq_true rfl) ?_
        refine hr_get ok_De_findSent rfl hR (kd := 8) (hs_k hR (a := 2) rfl) rfl (Nat.le_of_ble_eq_true rfl) (Nat.le_of_ble_eq_true rfl) (v := .long (s.2.2.1 806 2)) rfl (pc' := 44) rfl (Nat.le_of_ble_eq_true rfl) (Nat.le_of_ble_eq_true rfl) ?_
        refine am_steps ok_De_findSent 2 (x' := (if ¬ ((lg_cmp (s.2.2.1 1201 b18) (s.2.2.1 806 2)) : Int32) = 0 then 50 else 48, [some (.ref 20), some (.ref 2), some (.int v2), some (.ref b18)], [], h, 0, 0)) rfl (Nat.le_of_ble_eq_true rfl) (Nat.le_of_ble_eq_true rfl) ?_
        refine am_if (fun hc23 => ?_) (fun hc23 => ?_)
        · rw [if_pos hc23] at hd
          refine am_steps ok_De_findSent 2 (x' := (2, [some (.ref 20), some (.ref 2), some (.int (v2 + 1)), some (.ref b18)], [], h, 0, 0)) rfl (Nat.le_of_ble_eq_true rfl) (Nat.le_of_ble_eq_true rfl) ?_
          refine am_drop 3 ?_
          exact ih (v2 + 1)  q hd
        · rw [if_neg hc23] at hd
          refine am_steps ok_De_findSent 1 (x' := (49, [some (.ref 20), some (.ref 2), some (.int v2), some (.ref b18)], [.ref b18], h, 0, 0)) rfl (Nat.le_of_ble_eq_true rfl) (Nat.le_of_ble_eq_true rfl) ?_
          cases hd; exact am_ret ok_De_findSent rfl (Nat.le_of_ble_eq_true rfl) (Nat.le_of_ble_eq_true rfl) ⟨rfl, rfl, (fun _ hz => by cases hz; exact hk21)⟩
def h_De_findSent  (S : hS) : Option (Option Nat) := hl_De_findSent_2 100000 0 S
set_option maxHeartbeats 4000000 in
set_option maxRecDepth 100000 in
theorem c_De_findSent  (S : hS) (h0 : am_H) (hR : RH S h0)  (q : Option Nat) (hd : h_De_findSent  S = some q) : am_Me am_Pr none 3 64 0 0 135 [.ref 20, .ref 2] h0 (hPo (va_rf q) q 12 S.1 h0) := by
  refine am_enter (d := hd_De_findSent) rfl (by decide +kernel) (Nat.le_of_ble_eq_true rfl) ?_
  show am_S _ _ _ _ _ _ _ (0, [some (.ref 20), some (.ref 2), none, none], [], h0, 0, 0) _
  unfold h_De_findSent at hd
  refine am_steps ok_De_findSent 2 (x' := (2, [some (.ref 20), some (.ref 2), some (.int 0), none], [], h0, 0, 0)) rfl (Nat.le_of_ble_eq_true rfl) (Nat.le_of_ble_eq_true rfl) ?_
  exact Lc_De_findSent_2 S h0 hR 100000 0  q hd
def hl_Me_hasSameBytes_13 : Nat → Nat → Int32 → hS → Option (Int32)
  | 0, _, _, _ => none
  | fu + 1, v1, v2, s => if ((s.2.1 801 2) : Int32) ≤ v2 then (some 1) else ((am_ix v2 (hln s.1 v1)).bind fun j3 => ((am_ix v2 400).bind fun j6 => (if ((s.2.2.2.2.1 v1 j3) : Int32) = (s.2.2.2.2.1 1 j6) then (hl_Me_hasSameBytes_13 fu v1 (v2 + 1) s) else (some 0))))
set_option maxHeartbeats 4000000 in
set_option maxRecDepth 100000 in
theorem Lc_Me_hasSameBytes_13 (s : hS) (h : am_H) (hR : RH s h) : ∀ (fu : Nat) (v1 : Nat) (v2 : Int32), (hK s.1 v1 22) → ∀ (q : Int32), hl_Me_hasSameBytes_13 fu v1 v2 s = some q → am_S am_Pr none 0 0 0 0 188 (13, [some (.ref 2), some (.ref v1), some (.int v2)], [], h, 0, 0) (am_is (some (.int q)) h) := by
  intro fu
  induction fu with
  | zero => intro v1 v2 hv1 q hd; cases hd
  | succ fu ih =>
    intro v1 v2 hv1 q hd
    unfold hl_Me_hasSameBytes_13 at hd
    refine am_steps ok_Me_hasSameBytes 2 (x' := (15, [some (.ref 2), some (.ref v1), some (.int v2)], [.ref 2, .int v2], h, 0, 0)) rfl (Nat.le_of_ble_eq_true rfl) (Nat.le_of_ble_eq_true rfl) ?_
    refine hr_get ok_Me_hasSameBytes rfl hR (kd := 8) (hs_k hR (a := 2) rfl) rfl (Nat.le_of_ble_eq_true rfl) (Nat.le_of_ble_eq_true rfl) (v := .int (s.2.1 801 2)) rfl (pc' := 18) rfl (Nat.le_of_ble_eq_true rfl) (Nat.le_of_ble_eq_true rfl) ?_
    refine am_steps ok_Me_hasSameBytes 1 (x' := (if ((s.2.1 801 2) : Int32) ≤ v2 then 41 else 21, [some (.ref 2), some (.ref v1), some (.int v2)], [], h, 0, 0)) rfl (Nat.le_of_ble_eq_true rfl) (Nat.le_of_ble_eq_true rfl) ?_
    refine am_if (fun hc2 => ?_) (fun hc2 => ?_)
    · rw [if_pos hc2] at hd
      refine am_steps ok_Me_hasSameBytes 1 (x' := (42, [some (.ref 2), some (.ref v1), some (.int v2)], [.int 1], h, 0, 0)) rfl (Nat.le_of_ble_eq_true rfl) (Nat.le_of_ble_eq_true rfl) ?_
      cases hd; exact am_ret ok_Me_hasSameBytes rfl (Nat.le_of_ble_eq_true rfl) (Nat.le_of_ble_eq_true rfl) ⟨rfl, rfl⟩
    · rw [if_neg hc2] at hd
      refine am_steps ok_Me_hasSameBytes 2 (x' := (23, [some (.ref 2), some (.ref v1), some (.int v2)], [.int v2, .ref v1], h, 0, 0)) rfl (Nat.le_of_ble_eq_true rfl) (Nat.le_of_ble_eq_true rfl) ?_
      obtain ⟨j3, hx4, hd5⟩ := Option.bind_eq_some_iff.mp hd; clear hd; have hd := hd5; clear hd5
      refine hr_bald ok_Me_hasSameBytes rfl hR (kd := 22) hv1 (by decide) rfl hx4 (pc' := 24) rfl (Nat.le_of_ble_eq_true rfl) (Nat.le_of_ble_eq_true rfl) ?_
      refine am_steps ok_Me_hasSameBytes 1 (x' := (25, [some (.ref 2), some (.ref v1), some (.int v2)], [.ref 2, .int (s.2.2.2.2.1 v1 j3)], h, 0, 0)) rfl (Nat.le_of_ble_eq_true rfl) (Nat.le_of_ble_eq_true rfl) ?_
      refine hr_get ok_Me_hasSameBytes rfl hR (kd := 8) (hs_k hR (a := 2) rfl) rfl (Nat.le_of_ble_eq_true rfl) (Nat.le_of_ble_eq_true rfl) (v := .ref 1) (congrArg va_rf (hR.2.2.2.2.1 (800, 2, 1) (by decide))) (pc' := 28) rfl (Nat.le_of_ble_eq_true rfl) (Nat.le_of_ble_eq_true rfl) ?_
      refine am_steps ok_Me_hasSameBytes 1 (x' := (29, [some (.ref 2), some (.ref v1), some (.int v2)], [.int v2, .ref 1, .int (s.2.2.2.2.1 v1 j3)], h, 0, 0)) rfl (Nat.le_of_ble_eq_true rfl) (Nat.le_of_ble_eq_true rfl) ?_
      obtain ⟨j6, hx7, hd8⟩ := Option.bind_eq_some_iff.mp hd; clear hd; have hd := hd8; clear hd8
      refine hr_bald ok_Me_hasSameBytes rfl hR (kd := 22) (hs_k hR (a := 1) rfl) (by decide) (hs_ln hR rfl) hx7 (pc' := 30) rfl (Nat.le_of_ble_eq_true rfl) (Nat.le_of_ble_eq_true rfl) ?_
      refine am_steps ok_Me_hasSameBytes 1 (x' := (if ((s.2.2.2.2.1 v1 j3) : Int32) = (s.2.2.2.2.1 1 j6) then 35 else 33, [some (.ref 2), some (.ref v1), some (.int v2)], [], h, 0, 0)) rfl (Nat.le_of_ble_eq_true rfl) (Nat.le_of_ble_eq_true rfl) ?_
      refine am_if (fun hc9 => ?_) (fun hc9 => ?_)
      · rw [if_pos hc9] at hd
        refine am_steps ok_Me_hasSameBytes 2 (x' := (13, [some (.ref 2), some (.ref v1), some (.int (v2 + 1))], [], h, 0, 0)) rfl (Nat.le_of_ble_eq_true rfl) (Nat.le_of_ble_eq_true rfl) ?_
        exact ih v1 (v2 + 1) hv1 q hd
      · rw [if_neg hc9] at hd
        refine am_steps ok_Me_hasSameBytes 1 (x' := (34, [some (.ref 2), some (.ref v1), some (.int v2)], [.int 0], h, 0, 0)) rfl (Nat.le_of_ble_eq_true rfl) (Nat.le_of_ble_eq_true rfl) ?_
        cases hd; exact am_ret ok_Me_hasSameBytes rfl (Nat.le_of_ble_eq_true rfl) (Nat.le_of_ble_eq_true rfl) ⟨rfl, rfl⟩
def h_Me_hasSameBytes (a : Nat) (S : hS) : Option (Int32) := if ((Int32.ofNat (hln S.1 a)) : Int32) = (S.2.1 801 2) then (hl_Me_hasSameBytes_13 100000 a 0 S) else (some 0)
set_option maxHeartbeats 4000000 in
set_option maxRecDepth 100000 in
theorem c_Me_hasSameBytes (a : Nat) (S : hS) (h0 : am_H) (hR : RH S h0) (ha : hK S.1 a 22) (q : Int32) (hd : h_Me_hasSameBytes a S = some q) : am_Me am_Pr none 0 0 0 0 188 [.ref 2, .ref a] h0 (am_is (some (.int q)) h0) := by
  refine am_enter (d := hd_Me_hasSameBytes) rfl (by decide +kernel) (Nat.le_of_ble_eq_true rfl) ?_
  show am_S _ _ _ _ _ _ _ (0, [some (.ref 2), some (.ref a), none], [], h0, 0, 0) _
  unfold h_Me_hasSameBytes at hd
  refine am_steps ok_Me_hasSameBytes 1 (x' := (1, [some (.ref 2), some (.ref a), none], [.ref a], h0, 0, 0)) rfl (Nat.le_of_ble_eq_true rfl) (Nat.le_of_ble_eq_true rfl) ?_
  refine hr_alen ok_Me_hasSameBytes rfl hR (kd := 22) ha (by decide) (w := (Int32.ofNat (hln S.1 a))) rfl (pc' := 2) rfl (Nat.le_of_ble_eq_true rfl) (Nat.le_of_ble_eq_true rfl) ?_
  refine am_steps ok_Me_hasSameBytes 1 (x' := (3, [some (.ref 2), some (.ref a), none], [.ref 2, .int (Int32.ofNat (hln S.1 a))], h0, 0, 0)) rfl (Nat.le_of_ble_eq_true rfl) (Nat.le_of_ble_eq_true rfl) ?_
  refine hr_get ok_Me_hasSameBytes rfl hR (kd := 8) (hs_k hR (a := 2) rfl) rfl (Nat.le_of_ble_eq_true rfl) (Nat.le_of_ble_eq_true rfl) (v := .int (S.2.1 801 2)) rfl (pc' := 6) rfl (Nat.le_of_ble_eq_true rfl) (Nat.le_of_ble_eq_true rfl) ?_
  refine am_steps ok_Me_hasSameBytes 1 (x' := (if ((Int32.ofNat (hln S.1 a)) : Int32) = (S.2.1 801 2) then 11 else 9, [some (.ref 2), some (.ref a), none], [], h0, 0, 0)) rfl (Nat.le_of_ble_eq_true rfl) (Nat.le_of_ble_eq_true rfl) ?_
  refine am_if (fun hc1 => ?_) (fun hc1 => ?_)
  · rw [if_pos hc1] at hd
    refine am_steps ok_Me_hasSameBytes 2 (x' := (13, [some (.ref 2), some (.ref a), some (.int 0)], [], h0, 0, 0)) rfl (Nat.le_of_ble_eq_true rfl) (Nat.le_of_ble_eq_true rfl) ?_
    exact Lc_Me_hasSameBytes_13 S h0 hR 100000 a 0 ha q hd
  · rw [if_neg hc1] at hd
    refine am_steps ok_Me_hasSameBytes 1 (x' := (10, [some (.ref 2), some (.ref a), none], [.int 0], h0, 0, 0)) rfl (Nat.le_of_ble_eq_true rfl) (Nat.le_of_ble_eq_true rfl) ?_
    cases hd; exact am_ret ok_Me_hasSameBytes rfl (Nat.le_of_ble_eq_true rfl) (Nat.le_of_ble_eq_true rfl) ⟨rfl, rfl⟩
def hl_De_isInFirstCurrencyAlone_2 : Nat → Int32 → hS → Option (Int32)
  | 0, _, _ => none
  | fu + 1, v2, s => if ((s.2.1 812 2) : Int32) ≤ v2 then (some 1) else ((am_ix ((v2 * 3) + 2) 12).bind fun j2 => (if ((s.2.2.2.2.1 5 j2) : Int32) = (s.2.1 404 10) then (hl_De_isInFirstCurrencyAlone_2 fu (v2 + 1) s) else (some 0)))
set_option maxHeartbeats 4000000 in
set_option maxRecDepth 100000 in
theorem Lc_De_isInFirstCurrencyAlone_2 (s : hS) (h : am_H) (hR : RH s h) : ∀ (fu : Nat) (v2 : Int32), ∀ (q : Int32), hl_De_isInFirstCurrencyAlone_2 fu v2 s = some q → am_S am_Pr none 0 0 0 0 138 (2, [some (.ref 20), some (.ref 2), some (.int v2)], [], h, 0, 0) (am_is (some (.int q)) h) := by
  intro fu
  induction fu with
  | zero => intro v2  q hd; cases hd
  | succ fu ih =>
    intro v2  q hd
    unfold hl_De_isInFirstCurrencyAlone_2 at hd
    refine am_steps ok_De_isInFirstCurrencyAlone 2 (x' := (4, [some (.ref 20), some (.ref 2), some (.int v2)], [.ref 2, .int v2], h, 0, 0)) rfl (Nat.le_of_ble_eq_true rfl) (Nat.le_of_ble_eq_true rfl) ?_
    refine hr_get ok_De_isInFirstCurrencyAlone rfl hR (kd := 8) (hs_k hR (a := 2) rfl) rfl (Nat.le_of_ble_eq_true rfl) (Nat.le_of_ble_eq_true rfl) (v := .int (s.2.1 812 2)) rfl (pc' := 7) rfl (Nat.le_of_ble_eq_true rfl) (Nat.le_of_ble_eq_true rfl) ?_
    refine am_steps ok_De_isInFirstCurrencyAlone 1 (x' := (if ((s.2.1 812 2) : Int32) ≤ v2 then 38 else 10, [some (.ref 20), some (.ref 2), some (.int v2)], [], h, 0, 0)) rfl (Nat.le_of_ble_eq_true rfl) (Nat.le_of_ble_eq_true rfl) ?_
    refine am_if (fun hc1 => ?_) (fun hc1 => ?_)
    · rw [if_pos hc1] at hd
      refine am_steps ok_De_isInFirstCurrencyAlone 1 (x' := (39, [some (.ref 20), some (.ref 2), some (.int v2)], [.int 1], h, 0, 0)) rfl (Nat.le_of_ble_eq_true rfl) (Nat.le_of_ble_eq_true rfl) ?_
      cases hd; exact am_ret ok_De_isInFirstCurrencyAlone rfl (Nat.le_of_ble_eq_true rfl) (Nat.le_of_ble_eq_true rfl) ⟨rfl, rfl⟩
    · rw [if_neg hc1] at hd
      refine am_steps ok_De_isInFirstCurrencyAlone 1 (x' := (11, [some (.ref 20), some (.ref 2), some (.int v2)], [.ref 2], h, 0, 0)) rfl (Nat.le_of_ble_eq_true rfl) (Nat.le_of_ble_eq_true rfl) ?_
      refine hr_get ok_De_isInFirstCurrencyAlone rfl hR (kd := 8) (hs_k hR (a := 2) rfl) rfl (Nat.le_of_ble_eq_true rfl) (Nat.le_of_ble_eq_true rfl) (v := .ref 5) (congrArg va_rf (hR.2.2.2.2.1 (809, 2, 5) (by decide))) (pc' := 14) rfl (Nat.le_of_ble_eq_true rfl) (Nat.le_of_ble_eq_true rfl) ?_
      refine am_steps ok_De_isInFirstCurrencyAlone 5 (x' := (19, [some (.ref 20), some (.ref 2), some (.int v2)], [.int ((v2 * 3) + 2), .ref 5], h, 0, 0)) rfl (Nat.le_of_ble_eq_true rfl) (Nat.le_of_ble_eq_true rfl) ?_
      obtain ⟨j2, hx3, hd4⟩ := Option.bind_eq_some_iff.mp hd; clear hd; have hd := hd4; clear hd4
      refine hr_iald ok_De_isInFirstCurrencyAlone rfl hR (hs_k hR (a := 5) rfl) (hs_ln hR rfl) hx3 (pc' := 20) rfl (Nat.le_of_ble_eq_true rfl) (Nat.le_of_ble_eq_true rfl) ?_
      refine am_steps ok_De_isInFirstCurrencyAlone 1 (x' := (21, [some (.ref 20), some (.ref 2), some (.int v2)], [.ref 20, .int (s.2.2.2.2.1 5 j2)], h, 0, 0)) rfl (Nat.le_of_ble_eq_true rfl) (Nat.le_of_ble_eq_true rfl) ?_
      refine hr_get ok_De_isInFirstCurrencyAlone rfl hR (kd := 5) (hs_k hR (a := 20) rfl) rfl (Nat.le_of_ble_eq_true rfl) (Nat.le_of_ble_eq_true rfl) (v := .ref 10) (congrArg va_rf (hR.2.2.2.2.1 (500, 20, 10) (by decide))) (pc' := 24) rfl (Nat.le_of_ble_eq_true rfl) (Nat.le_of_ble_eq_true rfl) ?_
      refine hr_get ok_De_isInFirstCurrencyAlone rfl hR (kd := 4) (hs_k hR (a := 10) rfl) rfl (Nat.le_of_ble_eq_true rfl) (Nat.le_of_ble_eq_true rfl) (v := .int (s.2.1 404 10)) rfl (pc' := 27) rfl (Nat.le_of_ble_eq_true rfl) (Nat.le_of_ble_eq_true rfl) ?_
      refine am_steps ok_De_isInFirstCurrencyAlone 1 (x' := (if ((s.2.2.2.2.1 5 j2) : Int32) = (s.2.1 404 10) then 32 else 30, [some (.ref 20), some (.ref 2), some (.int v2)], [], h, 0, 0)) rfl (Nat.le_of_ble_eq_true rfl) (Nat.le_of_ble_eq_true rfl) ?_
      refine am_if (fun hc5 => ?_) (fun hc5 => ?_)
      · rw [if_pos hc5] at hd
        refine am_steps ok_De_isInFirstCurrencyAlone 2 (x' := (2, [some (.ref 20), some (.ref 2), some (.int (v2 + 1))], [], h, 0, 0)) rfl (Nat.le_of_ble_eq_true rfl) (Nat.le_of_ble_eq_true rfl) ?_
        exact ih (v2 + 1)  q hd
      · rw [if_neg hc5] at hd
        refine am_steps ok_De_isInFirstCurrencyAlone 1 (x' := (31, [some (.ref 20), some (.ref 2), some (.int v2)], [.int 0], h, 0, 0)) rfl (Nat.le_of_ble_eq_true rfl) (Nat.le_of_ble_eq_true rfl) ?_
        cases hd; exact am_ret ok_De_isInFirstCurrencyAlone rfl (Nat.le_of_ble_eq_true rfl) (Nat.le_of_ble_eq_true rfl) ⟨rfl, rfl⟩
def h_De_isInFirstCurrencyAlone  (S : hS) : Option (Int32) := hl_De_isInFirstCurrencyAlone_2 100000 0 S
set_option maxHeartbeats 4000000 in
set_option maxRecDepth 100000 in
theorem c_De_isInFirstCurrencyAlone  (S : hS) (h0 : am_H) (hR : RH S h0)  (q : Int32) (hd : h_De_isInFirstCurrencyAlone  S = some q) : am_Me am_Pr none 0 0 0 0 138 [.ref 20, .ref 2] h0 (am_is (some (.int q)) h0) := by
  refine am_enter (d := hd_De_isInFirstCurrencyAlone) rfl (by decide +kernel) (Nat.le_of_ble_eq_true rfl) ?_
  show am_S _ _ _ _ _ _ _ (0, [some (.ref 20), some (.ref 2), none], [], h0, 0, 0) _
  unfold h_De_isInFirstCurrencyAlone at hd
  refine am_steps ok_De_isInFirstCurrencyAlone 2 (x' := (2, [some (.ref 20), some (.ref 2), some (.int 0)], [], h0, 0, 0)) rfl (Nat.le_of_ble_eq_true rfl) (Nat.le_of_ble_eq_true rfl) ?_
  exact Lc_De_isInFirstCurrencyAlone_2 S h0 hR 100000 0  q hd
def h_De_isPayInPhase  (S : hS) : Option (Int32) := if ((S.2.1 504 20) : Int32) < 800 then (if ((S.2.1 504 20) : Int32) < 700 then (some 1) else (if (4 : Int32) < (S.2.1 817 2) then (some 0) else (some 1))) else ((h_De_isInFirstCurrencyAlone  S).bind fun q4 => (if q4 = 0 ∨ q4 = 1 then some q4 else none))
set_option maxHeartbeats 4000000 in
set_option maxRecDepth 100000 in
theorem c_De_isPayInPhase  (S : hS) (h0 : am_H) (hR : RH S h0)  (q : Int32) (hd : h_De_isPayInPhase  S = some q) : am_Me am_Pr none 1 22 0 0 137 [.ref 20, .ref 2] h0 (am_is (some (.int q)) h0) := by
  refine am_enter (d := hd_De_isPayInPhase) rfl (by decide +kernel) (Nat.le_of_ble_eq_true rfl) ?_
  show am_S _ _ _ _ _ _ _ (0, [some (.ref 20), some (.ref 2)], [], h0, 0, 0) _
  unfold h_De_isPayInPhase at hd
  refine am_steps ok_De_isPayInPhase 1 (x' := (1, [some (.ref 20), some (.ref 2)], [.ref 20], h0, 0, 0)) rfl (Nat.le_of_ble_eq_true rfl) (Nat.le_of_ble_eq_true rfl) ?_
  refine hr_get ok_De_isPayInPhase rfl hR (kd := 5) (hs_k hR (a := 20) rfl) rfl (Nat.le_of_ble_eq_true rfl) (Nat.le_of_ble_eq_true rfl) (v := .int (S.2.1 504 20)) rfl (pc' := 4) rfl (Nat.le_of_ble_eq_true rfl) (Nat.le_of_ble_eq_true rfl) ?_
  refine am_steps ok_De_isPayInPhase 2 (x' := (if ((S.2.1 504 20) : Int32) < 800 then 16 else 10, [some (.ref 20), some (.ref 2)], [], h0, 0, 0)) rfl (Nat.le_of_ble_eq_true rfl) (Nat.le_of_ble_eq_true rfl) ?_
  refine am_if (fun hc1 => ?_) (fun hc1 => ?_)
  · rw [if_pos hc1] at hd
    refine am_steps ok_De_isPayInPhase 1 (x' := (17, [some (.ref 20), some (.ref 2)], [.ref 20], h0, 0, 0)) rfl (Nat.le_of_ble_eq_true rfl) (Nat.le_of_ble_eq_true rfl) ?_
    refine hr_get ok_De_isPayInPhase rfl hR (kd := 5) (hs_k hR (a := 20) rfl) rfl (Nat.le_of_ble_eq_true rfl) (Nat.le_of_ble_eq_true rfl) (v := .int (S.2.1 504 20)) rfl (pc' := 20) rfl (Nat.le_of_ble_eq_true rfl) (Nat.le_of_ble_eq_true rfl) ?_
    refine am_steps ok_De_isPayInPhase 2 (x' := (if ((S.2.1 504 20) : Int32) < 700 then 34 else 26, [some (.ref 20), some (.ref 2)], [], h0, 0, 0)) rfl (Nat.le_of_ble_eq_true rfl) (Nat.le_of_ble_eq_true rfl) ?_
    refine am_if (fun hc2 => ?_) (fun hc2 => ?_)
    · rw [if_pos hc2] at hd
      refine am_steps ok_De_isPayInPhase 2 (x' := (39, [some (.ref 20), some (.ref 2)], [.int 1], h0, 0, 0)) rfl (Nat.le_of_ble_eq_true rfl) (Nat.le_of_ble_eq_true rfl) ?_
      cases hd; exact am_ret ok_De_isPayInPhase rfl (Nat.le_of_ble_eq_true rfl) (Nat.le_of_ble_eq_true rfl) ⟨rfl, rfl⟩
    · rw [if_neg hc2] at hd
      refine am_steps ok_De_isPayInPhase 1 (x' := (27, [some (.ref 20), some (.ref 2)], [.ref 2], h0, 0, 0)) rfl (Nat.le_of_ble_eq_true rfl) (Nat.le_of_ble_eq_true rfl) ?_
      refine hr_get ok_De_isPayInPhase rfl hR (kd := 8) (hs_k hR (a := 2) rfl) rfl (Nat.le_of_ble_eq_true rfl) (Nat.le_of_ble_eq_true rfl) (v := .int (S.2.1 817 2)) rfl (pc' := 30) rfl (Nat.le_of_ble_eq_true rfl) (Nat.le_of_ble_eq_true rfl) ?_
      refine am_steps ok_De_isPayInPhase 2 (x' := (if (4 : Int32) < (S.2.1 817 2) then 38 else 34, [some (.ref 20), some (.ref 2)], [], h0, 0, 0)) rfl (Nat.le_of_ble_eq_true rfl) (Nat.le_of_ble_eq_true rfl) ?_
      refine am_if (fun hc3 => ?_) (fun hc3 => ?_)
      · rw [if_pos hc3] at hd
        refine am_steps ok_De_isPayInPhase 1 (x' := (39, [some (.ref 20), some (.ref 2)], [.int 0], h0, 0, 0)) rfl (Nat.le_of_ble_eq_true rfl) (Nat.le_of_ble_eq_true rfl) ?_
        cases hd; exact am_ret ok_De_isPayInPhase rfl (Nat.le_of_ble_eq_true rfl) (Nat.le_of_ble_eq_true rfl) ⟨rfl, rfl⟩
      · rw [if_neg hc3] at hd
        refine am_steps ok_De_isPayInPhase 2 (x' := (39, [some (.ref 20), some (.ref 2)], [.int 1], h0, 0, 0)) rfl (Nat.le_of_ble_eq_true rfl) (Nat.le_of_ble_eq_true rfl) ?_
        cases hd; exact am_ret ok_De_isPayInPhase rfl (Nat.le_of_ble_eq_true rfl) (Nat.le_of_ble_eq_true rfl) ⟨rfl, rfl⟩
  · rw [if_neg hc1] at hd
    refine am_steps ok_De_isPayInPhase 2 (x' := (12, [some (.ref 20), some (.ref 2)], [.ref 2, .ref 20], h0, 0, 0)) rfl (Nat.le_of_ble_eq_true rfl) (Nat.le_of_ble_eq_true rfl) ?_
    obtain ⟨q4, hq5, hd6⟩ := Option.bind_eq_some_iff.mp hd; clear hd; have hd := hd6; clear hd6
    refine ar_cv ok_De_isPayInPhase hk_De_isInFirstCurrencyAlone rfl rfl (As := [.ref 2]) (ad := 20) (rest := []) rfl rfl (hR.ob (hs_k hR (a := 20) rfl) (Nat.le_of_ble_eq_true rfl)) (Nat.le_of_ble_eq_true rfl) (c_De_isInFirstCurrencyAlone  S h0 hR  q4 hq5) (Nat.le_of_ble_eq_true rfl) (Nat.le_of_ble_eq_true rfl) (Nat.le_of_ble_eq_true rfl) (Nat.le_of_ble_eq_true rfl) (pc' := 15) rfl (fun r7 h9 z8 => ?_)
    obtain ⟨rfl, z11⟩ := z8; rw [z11]
    show am_S _ _ _ _ _ _ _ (15, [some (.ref 20), some (.ref 2)], [.int q4], h0, 0, 0) _
    split at hd
    · rename_i hz; cases hd; exact am_ret ok_De_isPayInPhase (if_pos hz) (Nat.le_of_ble_eq_true rfl) (Nat.le_of_ble_eq_true rfl) ⟨rfl, rfl⟩
    · cases hd
def h_De_isInPhase  (S : hS) : Option (Int32) := (if (100 : Int32) ≤ (S.2.1 504 20) then (some 0) else (some 1)).bind fun (u1 : Int32) => ((if ((S.2.1 504 20) : Int32) < 900 then (some 0) else (some 1)).bind fun (u5 : Int32) => (if (S.2.1 804 2) = 3 ∨ (S.2.1 804 2) = 4 ∨ (S.2.1 804 2) = 6 ∨ (S.2.1 804 2) = 13 then (if ¬ (u1 : Int32) = 0 then (some 0) else (if ¬ (u5 : Int32) = 0 then (some 0) else (some 1))) else (if (S.2.1 804 2) = 5 then (if ¬ (u1 : Int32) = 0 then (some 0) else (if ¬ (u5 : Int32) = 0 then (some 0) else ((h_De_isPayInPhase  S).bind fun q18 => (if (q18 : Int32) = 0 then (some 0) else (some 1))))) else (if (S.2.1 804 2) = 7 ∨ (S.2.1 804 2) = 8 then (if ¬ (u5 : Int32) = 0 then (some 0) else (some 1)) else (some 1)))))
set_option maxHeartbeats 4000000 in
set_option maxRecDepth 100000 in
theorem c_De_isInPhase  (S : hS) (h0 : am_H) (hR : RH S h0)  (q : Int32) (hd : h_De_isInPhase  S = some q) : am_Me am_Pr none 2 43 0 0 136 [.ref 20, .ref 2] h0 (am_is (some (.int q)) h0) := by
  refine am_enter (d := hd_De_isInPhase) rfl (by decide +kernel) (Nat.le_of_ble_eq_true rfl) ?_
  show am_S _ _ _ _ _ _ _ (0, [some (.ref 20), some (.ref 2), none, none], [], h0, 0, 0) _
  unfold h_De_isInPhase at hd
  refine am_steps ok_De_isInPhase 1 (x' := (1, [some (.ref 20), some (.ref 2), none, none], [.ref 20], h0, 0, 0)) rfl (Nat.le_of_ble_eq_true rfl) (Nat.le_of_ble_eq_true rfl) ?_
  refine hr_get ok_De_isInPhase rfl hR (kd := 5) (hs_k hR (a := 20) rfl) rfl (Nat.le_of_ble_eq_true rfl) (Nat.le_of_ble_eq_true rfl) (v := .int (S.2.1 504 20)) rfl (pc' := 4) rfl (Nat.le_of_ble_eq_true rfl) (Nat.le_of_ble_eq_true rfl) ?_
  refine am_steps ok_De_isInPhase 2 (x' := (if (100 : Int32) ≤ (S.2.1 504 20) then 13 else 9, [some (.ref 20), some (.ref 2), none, none], [], h0, 0, 0)) rfl (Nat.le_of_ble_eq_true rfl) (Nat.le_of_ble_eq_true rfl) ?_
  obtain ⟨u1, hA3, hB4⟩ := Option.bind_eq_some_iff.mp hd; clear hd
  have K2 : am_S am_Pr none 2 43 0 0 136 (14, [some (.ref 20), some (.ref 2), none, none], [.int u1], h0, 0, 0) (am_is (some (.int q)) h0) := by
    have hd := hB4
    refine am_steps ok_De_isInPhase 2 (x' := (16, [some (.ref 20), some (.ref 2), some (.int u1), none], [.ref 20], h0, 0, 0)) rfl (Nat.le_of_ble_eq_true rfl) (Nat.le_of_ble_eq_true rfl) ?_
    refine hr_get ok_De_isInPhase rfl hR (kd := 5) (hs_k hR (a := 20) rfl) rfl (Nat.le_of_ble_eq_true rfl) (Nat.le_of_ble_eq_true rfl) (v := .int (S.2.1 504 20)) rfl (pc' := 19) rfl (Nat.le_of_ble_eq_true rfl) (Nat.le_of_ble_eq_true rfl) ?_
    refine am_steps ok_De_isInPhase 2 (x' := (if ((S.2.1 504 20) : Int32) < 900 then 29 else 25, [some (.ref 20), some (.ref 2), some (.int u1), none], [], h0, 0, 0)) rfl (Nat.le_of_ble_eq_true rfl) (Nat.le_of_ble_eq_true rfl) ?_
    obtain ⟨u5, hA7, hB8⟩ := Option.bind_eq_some_iff.mp hd; clear hd
    have K6 : am_S am_Pr none 2 43 0 0 136 (30, [some (.ref 20), some (.ref 2), some (.int u1), none], [.int u5], h0, 0, 0) (am_is (some (.int q)) h0) := by
      have hd := hB8
      refine am_steps ok_De_isInPhase 2 (x' := (32, [some (.ref 20), some (.ref 2), some (.int u1), some (.int u5)], [.ref 2], h0, 0, 0)) rfl (Nat.le_of_ble_eq_true rfl) (Nat.le_of_ble_eq_true rfl) ?_
      refine hr_get ok_De_isInPhase rfl hR (kd := 8) (hs_k hR (a := 2) rfl) rfl (Nat.le_of_ble_eq_true rfl) (Nat.le_of_ble_eq_true rfl) (v := .int (S.2.1 804 2)) rfl (pc' := 35) rfl (Nat.le_of_ble_eq_true rfl) (Nat.le_of_ble_eq_true rfl) ?_
      by_cases hc9 : (S.2.1 804 2) = 3 ∨ (S.2.1 804 2) = 4 ∨ (S.2.1 804 2) = 6 ∨ (S.2.1 804 2) = 13
      · rw [if_pos hc9] at hd
        have KT10 : am_S am_Pr none 2 43 0 0 136 (114, [some (.ref 20), some (.ref 2), some (.int u1), some (.int u5)], [], h0, 0, 0) (am_is (some (.int q)) h0) := by
          refine am_steps ok_De_isInPhase 2 (x' := (if ¬ (u1 : Int32) = 0 then 126 else 118, [some (.ref 20), some (.ref 2), some (.int u1), some (.int u5)], [], h0, 0, 0)) rfl (Nat.le_of_ble_eq_true rfl) (Nat.le_of_ble_eq_true rfl) ?_
          refine am_if (fun hc11 => ?_) (fun hc11 => ?_)
          · rw [if_pos hc11] at hd
            refine am_steps ok_De_isInPhase 1 (x' := (127, [some (.ref 20), some (.ref 2), some (.int u1), some (.int u5)], [.int 0], h0, 0, 0)) rfl (Nat.le_of_ble_eq_true rfl) (Nat.le_of_ble_eq_true rfl) ?_
            cases hd; exact am_ret ok_De_isInPhase rfl (Nat.le_of_ble_eq_true rfl) (Nat.le_of_ble_eq_true rfl) ⟨rfl, rfl⟩
          · rw [if_neg hc11] at hd
            refine am_steps ok_De_isInPhase 2 (x' := (if ¬ (u5 : Int32) = 0 then 126 else 122, [some (.ref 20), some (.ref 2), some (.int u1), some (.int u5)], [], h0, 0, 0)) rfl (Nat.le_of_ble_eq_true rfl) (Nat.le_of_ble_eq_true rfl) ?_
            refine am_if (fun hc12 => ?_) (fun hc12 => ?_)
            · rw [if_pos hc12] at hd
              refine am_steps ok_De_isInPhase 1 (x' := (127, [some (.ref 20), some (.ref 2), some (.int u1), some (.int u5)], [.int 0], h0, 0, 0)) rfl (Nat.le_of_ble_eq_true rfl) (Nat.le_of_ble_eq_true rfl) ?_
              cases hd; exact am_ret ok_De_isInPhase rfl (Nat.le_of_ble_eq_true rfl) (Nat.le_of_ble_eq_true rfl) ⟨rfl, rfl⟩
            · rw [if_neg hc12] at hd
              refine am_steps ok_De_isInPhase 2 (x' := (127, [some (.ref 20), some (.ref 2), some (.int u1), some (.int u5)], [.int 1], h0, 0, 0)) rfl (Nat.le_of_ble_eq_true rfl) (Nat.le_of_ble_eq_true rfl) ?_
              cases hd; exact am_ret ok_De_isInPhase rfl (Nat.le_of_ble_eq_true rfl) (Nat.le_of_ble_eq_true rfl) ⟨rfl, rfl⟩
        rcases hc9 with hv13 | hv13 | hv13 | hv13
        · exact ar_tswk ok_De_isInPhase rfl hv13 (by decide +kernel) rfl rfl (Nat.le_of_ble_eq_true rfl) (Nat.le_of_ble_eq_true rfl) KT10
        · exact ar_tswk ok_De_isInPhase rfl hv13 (by decide +kernel) rfl rfl (Nat.le_of_ble_eq_true rfl) (Nat.le_of_ble_eq_true rfl) KT10
        · exact ar_tswk ok_De_isInPhase rfl hv13 (by decide +kernel) rfl rfl (Nat.le_of_ble_eq_true rfl) (Nat.le_of_ble_eq_true rfl) KT10
        · exact ar_tswk ok_De_isInPhase rfl hv13 (by decide +kernel) rfl rfl (Nat.le_of_ble_eq_true rfl) (Nat.le_of_ble_eq_true rfl) KT10
      rw [if_neg hc9] at hd
      by_cases hc14 : (S.2.1 804 2) = 5
      · rw [if_pos hc14] at hd
        have KT15 : am_S am_Pr none 2 43 0 0 136 (92, [some (.ref 20), some (.ref 2), some (.int u1), some (.int u5)], [], h0, 0, 0) (am_is (some (.int q)) h0) := by
          refine am_steps ok_De_isInPhase 2 (x' := (if ¬ (u1 : Int32) = 0 then 112 else 96, [some (.ref 20), some (.ref 2), some (.int u1), some (.int u5)], [], h0, 0, 0)) rfl (Nat.le_of_ble_eq_true rfl) (Nat.le_of_ble_eq_true rfl) ?_
          refine am_if (fun hc16 => ?_) (fun hc16 => ?_)
          · rw [if_pos hc16] at hd
            refine am_steps ok_De_isInPhase 1 (x' := (113, [some (.ref 20), some (.ref 2), some (.int u1), some (.int u5)], [.int 0], h0, 0, 0)) rfl (Nat.le_of_ble_eq_true rfl) (Nat.le_of_ble_eq_true rfl) ?_
            cases hd; exact am_ret ok_De_isInPhase rfl (Nat.le_of_ble_eq_true rfl) (Nat.le_of_ble_eq_true rfl) ⟨rfl, rfl⟩
          · rw [if_neg hc16] at hd
            refine am_steps ok_De_isInPhase 2 (x' := (if ¬ (u5 : Int32) = 0 then 112 else 100, [some (.ref 20), some (.ref 2), some (.int u1), some (.int u5)], [], h0, 0, 0)) rfl (Nat.le_of_ble_eq_true rfl) (Nat.le_of_ble_eq_true rfl) ?_
            refine am_if (fun hc17 => ?_) (fun hc17 => ?_)
            · rw [if_pos hc17] at hd
              refine am_steps ok_De_isInPhase 1 (x' := (113, [some (.ref 20), some (.ref 2), some (.int u1), some (.int u5)], [.int 0], h0, 0, 0)) rfl (Nat.le_of_ble_eq_true rfl) (Nat.le_of_ble_eq_true rfl) ?_
              cases hd; exact am_ret ok_De_isInPhase rfl (Nat.le_of_ble_eq_true rfl) (Nat.le_of_ble_eq_true rfl) ⟨rfl, rfl⟩
            · rw [if_neg hc17] at hd
              refine am_steps ok_De_isInPhase 2 (x' := (102, [some (.ref 20), some (.ref 2), some (.int u1), some (.int u5)], [.ref 2, .ref 20], h0, 0, 0)) rfl (Nat.le_of_ble_eq_true rfl) (Nat.le_of_ble_eq_true rfl) ?_
              obtain ⟨q18, hq19, hd20⟩ := Option.bind_eq_some_iff.mp hd; clear hd; have hd := hd20; clear hd20
              refine ar_cv ok_De_isInPhase hk_De_isPayInPhase rfl rfl (As := [.ref 2]) (ad := 20) (rest := []) rfl rfl (hR.ob (hs_k hR (a := 20) rfl) (Nat.le_of_ble_eq_true rfl)) (Nat.le_of_ble_eq_true rfl) (c_De_isPayInPhase  S h0 hR  q18 hq19) (Nat.le_of_ble_eq_true rfl) (Nat.le_of_ble_eq_true rfl) (Nat.le_of_ble_eq_true rfl) (Nat.le_of_ble_eq_true rfl) (pc' := 105) rfl (fun r21 h23 z22 => ?_)
              obtain ⟨rfl, z25⟩ := z22; rw [z25]
              show am_S _ _ _ _ _ _ _ (105, [some (.ref 20), some (.ref 2), some (.int u1), some (.int u5)], [.int q18], h0, 0, 0) _
              refine am_steps ok_De_isInPhase 1 (x' := (if (q18 : Int32) = 0 then 112 else 108, [some (.ref 20), some (.ref 2), some (.int u1), some (.int u5)], [], h0, 0, 0)) rfl (Nat.le_of_ble_eq_true rfl) (Nat.le_of_ble_eq_true rfl) ?_
              refine am_if (fun hc26 => ?_) (fun hc26 => ?_)
              · rw [if_pos hc26] at hd
                refine am_steps ok_De_isInPhase 1 (x' := (113, [some (.ref 20), some (.ref 2), some (.int u1), some (.int u5)], [.int 0], h0, 0, 0)) rfl (Nat.le_of_ble_eq_true rfl) (Nat.le_of_ble_eq_true rfl) ?_
                cases hd; exact am_ret ok_De_isInPhase rfl (Nat.le_of_ble_eq_true rfl) (Nat.le_of_ble_eq_true rfl) ⟨rfl, rfl⟩
              · rw [if_neg hc26] at hd
                refine am_steps ok_De_isInPhase 2 (x' := (113, [some (.ref 20), some (.ref 2), some (.int u1), some (.int u5)], [.int 1], h0, 0, 0)) rfl (Nat.le_of_ble_eq_true rfl) (Nat.le_of_ble_eq_true rfl) ?_
                cases hd; exact am_ret ok_De_isInPhase rfl (Nat.le_of_ble_eq_true rfl) (Nat.le_of_ble_eq_true rfl) ⟨rfl, rfl⟩
        exact ar_tswk ok_De_isInPhase rfl hc14 (by decide +kernel) rfl rfl (Nat.le_of_ble_eq_true rfl) (Nat.le_of_ble_eq_true rfl) KT15
      rw [if_neg hc14] at hd
      by_cases hc28 : (S.2.1 804 2) = 7 ∨ (S.2.1 804 2) = 8
      · rw [if_pos hc28] at hd
        have KT29 : am_S am_Pr none 2 43 0 0 136 (128, [some (.ref 20), some (.ref 2), some (.int u1), some (.int u5)], [], h0, 0, 0) (am_is (some (.int q)) h0) := by
          refine am_steps ok_De_isInPhase 2 (x' := (if ¬ (u5 : Int32) = 0 then 136 else 132, [some (.ref 20), some (.ref 2), some (.int u1), some (.int u5)], [], h0, 0, 0)) rfl (Nat.le_of_ble_eq_true rfl) (Nat.le_of_ble_eq_true rfl) ?_
          refine am_if (fun hc30 => ?_) (fun hc30 => ?_)
          · rw [if_pos hc30] at hd
            refine am_steps ok_De_isInPhase 1 (x' := (137, [some (.ref 20), some (.ref 2), some (.int u1), some (.int u5)], [.int 0], h0, 0, 0)) rfl (Nat.le_of_ble_eq_true rfl) (Nat.le_of_ble_eq_true rfl) ?_
            cases hd; exact am_ret ok_De_isInPhase rfl (Nat.le_of_ble_eq_true rfl) (Nat.le_of_ble_eq_true rfl) ⟨rfl, rfl⟩
          · rw [if_neg hc30] at hd
            refine am_steps ok_De_isInPhase 2 (x' := (137, [some (.ref 20), some (.ref 2), some (.int u1), some (.int u5)], [.int 1], h0, 0, 0)) rfl (Nat.le_of_ble_eq_true rfl) (Nat.le_of_ble_eq_true rfl) ?_
            cases hd; exact am_ret ok_De_isInPhase rfl (Nat.le_of_ble_eq_true rfl) (Nat.le_of_ble_eq_true rfl) ⟨rfl, rfl⟩
        rcases hc28 with hv31 | hv31
        · exact ar_tswk ok_De_isInPhase rfl hv31 (by decide +kernel) rfl rfl (Nat.le_of_ble_eq_true rfl) (Nat.le_of_ble_eq_true rfl) KT29
        · exact ar_tswk ok_De_isInPhase rfl hv31 (by decide +kernel) rfl rfl (Nat.le_of_ble_eq_true rfl) (Nat.le_of_ble_eq_true rfl) KT29
      rw [if_neg hc28] at hd
      have KT32 : am_S am_Pr none 2 43 0 0 136 (138, [some (.ref 20), some (.ref 2), some (.int u1), some (.int u5)], [], h0, 0, 0) (am_is (some (.int q)) h0) := by
        refine am_steps ok_De_isInPhase 1 (x' := (139, [some (.ref 20), some (.ref 2), some (.int u1), some (.int u5)], [.int 1], h0, 0, 0)) rfl (Nat.le_of_ble_eq_true rfl) (Nat.le_of_ble_eq_true rfl) ?_
        cases hd; exact am_ret ok_De_isInPhase rfl (Nat.le_of_ble_eq_true rfl) (Nat.le_of_ble_eq_true rfl) ⟨rfl, rfl⟩
      by_cases hc33 : (S.2.1 804 2) = 9
      · exact ar_tswk ok_De_isInPhase rfl hc33 (by decide +kernel) rfl rfl (Nat.le_of_ble_eq_true rfl) (Nat.le_of_ble_eq_true rfl) KT32
      by_cases hc34 : (S.2.1 804 2) = 10
      · exact ar_tswk ok_De_isInPhase rfl hc34 (by decide +kernel) rfl rfl (Nat.le_of_ble_eq_true rfl) (Nat.le_of_ble_eq_true rfl) KT32
      by_cases hc35 : (S.2.1 804 2) = 11
      · exact ar_tswk ok_De_isInPhase rfl hc35 (by decide +kernel) rfl rfl (Nat.le_of_ble_eq_true rfl) (Nat.le_of_ble_eq_true rfl) KT32
      by_cases hc36 : (S.2.1 804 2) = 12
      · exact ar_tswk ok_De_isInPhase rfl hc36 (by decide +kernel) rfl rfl (Nat.le_of_ble_eq_true rfl) (Nat.le_of_ble_eq_true rfl) KT32
      have ho41 : (S.2.1 804 2).toInt < 3 ∨ 13 < (S.2.1 804 2).toInt := tsw_out (fun c38 h39 h40 e37 => by
        have c38x : c38 = 3 ∨ c38 = 4 ∨ c38 = 5 ∨ c38 = 6 ∨ c38 = 7 ∨ c38 = 8 ∨ c38 = 9 ∨ c38 = 10 ∨ c38 = 11 ∨ c38 = 12 ∨ c38 = 13 := by omega
        rcases c38x with rfl | rfl | rfl | rfl | rfl | rfl | rfl | rfl | rfl | rfl | rfl
        · exact hc9 (Or.inl e37)
        · exact hc9 (Or.inr (Or.inl e37))
        · exact hc14 e37
        · exact hc9 (Or.inr (Or.inr (Or.inl e37)))
        · exact hc28 (Or.inl e37)
        · exact hc28 (Or.inr e37)
        · exact hc33 e37
        · exact hc34 e37
        · exact hc35 e37
        · exact hc36 e37
        · exact hc9 (Or.inr (Or.inr (Or.inr e37))))
      exact ar_tsw ok_De_isInPhase rfl ho41 rfl (Nat.le_of_ble_eq_true rfl) (Nat.le_of_ble_eq_true rfl) KT32
    clear hB8; have hd := hA7; clear hA7
    refine am_if (fun hc42 => ?_) (fun hc42 => ?_)
    · rw [if_pos hc42] at hd
      refine am_steps ok_De_isInPhase 1 (x' := (30, [some (.ref 20), some (.ref 2), some (.int u1), none], [.int 0], h0, 0, 0)) rfl (Nat.le_of_ble_eq_true rfl) (Nat.le_of_ble_eq_true rfl) ?_
      cases hd; exact K6 
    · rw [if_neg hc42] at hd
      refine am_steps ok_De_isInPhase 2 (x' := (30, [some (.ref 20), some (.ref 2), some (.int u1), none], [.int 1], h0, 0, 0)) rfl (Nat.le_of_ble_eq_true rfl) (Nat.le_of_ble_eq_true rfl) ?_
      cases hd; exact K6 
  clear hB4; have hd := hA3; clear hA3
  refine am_if (fun hc43 => ?_) (fun hc43 => ?_)
  · rw [if_pos hc43] at hd
    refine am_steps ok_De_isInPhase 1 (x' := (14, [some (.ref 20), some (.ref 2), none, none], [.int 0], h0, 0, 0)) rfl (Nat.le_of_ble_eq_true rfl) (Nat.le_of_ble_eq_true rfl) ?_
    cases hd; exact K2 
  · rw [if_neg hc43] at hd
    refine am_steps ok_De_isInPhase 2 (x' := (14, [some (.ref 20), some (.ref 2), none, none], [.int 1], h0, 0, 0)) rfl (Nat.le_of_ble_eq_true rfl) (Nat.le_of_ble_eq_true rfl) ?_
    cases hd; exact K2 
def h_De_judgeNew  (S : hS) : Option (Int32) := (h_Bo_findParticipant (S.2.1 814 2) S).bind fun q1 => (if (q1 : Int32) = (-1) then (if (256 : Int32) ≤ (S.2.1 401 10) then (some 12) else (some 0)) else (some 8))
set_option maxHeartbeats 4000000 in
set_option maxRecDepth 100000 in
theorem c_De_judgeNew  (S : hS) (h0 : am_H) (hR : RH S h0)  (q : Int32) (hd : h_De_judgeNew  S = some q) : am_Me am_Pr none 1 22 0 0 140 [.ref 20, .ref 2] h0 (am_is (some (.int q)) h0) := by
  refine am_enter (d := hd_De_judgeNew) rfl (by decide +kernel) (Nat.le_of_ble_eq_true rfl) ?_
  show am_S _ _ _ _ _ _ _ (0, [some (.ref 20), some (.ref 2)], [], h0, 0, 0) _
  unfold h_De_judgeNew at hd
  refine am_steps ok_De_judgeNew 1 (x' := (1, [some (.ref 20), some (.ref 2)], [.ref 20], h0, 0, 0)) rfl (Nat.le_of_ble_eq_true rfl) (Nat.le_of_ble_eq_true rfl) ?_
  refine hr_get ok_De_judgeNew rfl hR (kd := 5) (hs_k hR (a := 20) rfl) rfl (Nat.le_of_ble_eq_true rfl) (Nat.le_of_ble_eq_true rfl) (v := .ref 10) (congrArg va_rf (hR.2.2.2.2.1 (500, 20, 10) (by decide))) (pc' := 4) rfl (Nat.le_of_ble_eq_true rfl) (Nat.le_of_ble_eq_true rfl) ?_
  refine am_steps ok_De_judgeNew 1 (x' := (5, [some (.ref 20), some (.ref 2)], [.ref 2, .ref 10], h0, 0, 0)) rfl (Nat.le_of_ble_eq_true rfl) (Nat.le_of_ble_eq_true rfl) ?_
  refine hr_get ok_De_judgeNew rfl hR (kd := 8) (hs_k hR (a := 2) rfl) rfl (Nat.le_of_ble_eq_true rfl) (Nat.le_of_ble_eq_true rfl) (v := .int (S.2.1 814 2)) rfl (pc' := 8) rfl (Nat.le_of_ble_eq_true rfl) (Nat.le_of_ble_eq_true rfl) ?_
  obtain ⟨q1, hq2, hd3⟩ := Option.bind_eq_some_iff.mp hd; clear hd; have hd := hd3; clear hd3
  refine ar_cv ok_De_judgeNew hk_Bo_findParticipant rfl rfl (As := [.int (S.2.1 814 2)]) (ad := 10) (rest := []) rfl rfl (hR.ob (hs_k hR (a := 10) rfl) (Nat.le_of_ble_eq_true rfl)) (Nat.le_of_ble_eq_true rfl) (c_Bo_findParticipant (S.2.1 814 2) S h0 hR  q1 hq2) (Nat.le_of_ble_eq_true rfl) (Nat.le_of_ble_eq_true rfl) (Nat.le_of_ble_eq_true rfl) (Nat.le_of_ble_eq_true rfl) (pc' := 11) rfl (fun r4 h6 z5 => ?_)
  obtain ⟨rfl, z8⟩ := z5; rw [z8]
  show am_S _ _ _ _ _ _ _ (11, [some (.ref 20), some (.ref 2)], [.int q1], h0, 0, 0) _
  refine am_steps ok_De_judgeNew 2 (x' := (if (q1 : Int32) = (-1) then 18 else 15, [some (.ref 20), some (.ref 2)], [], h0, 0, 0)) rfl (Nat.le_of_ble_eq_true rfl) (Nat.le_of_ble_eq_true rfl) ?_
  refine am_if (fun hc9 => ?_) (fun hc9 => ?_)
  · rw [if_pos hc9] at hd
    refine am_steps ok_De_judgeNew 1 (x' := (19, [some (.ref 20), some (.ref 2)], [.ref 20], h0, 0, 0)) rfl (Nat.le_of_ble_eq_true rfl) (Nat.le_of_ble_eq_true rfl) ?_
    refine hr_get ok_De_judgeNew rfl hR (kd := 5) (hs_k hR (a := 20) rfl) rfl (Nat.le_of_ble_eq_true rfl) (Nat.le_of_ble_eq_true rfl) (v := .ref 10) (congrArg va_rf (hR.2.2.2.2.1 (500, 20, 10) (by decide))) (pc' := 22) rfl (Nat.le_of_ble_eq_true rfl) (Nat.le_of_ble_eq_true rfl) ?_
    refine hr_get ok_De_judgeNew rfl hR (kd := 4) (hs_k hR (a := 10) rfl) rfl (Nat.le_of_ble_eq_true rfl) (Nat.le_of_ble_eq_true rfl) (v := .int (S.2.1 401 10)) rfl (pc' := 25) rfl (Nat.le_of_ble_eq_true rfl) (Nat.le_of_ble_eq_true rfl) ?_
    refine am_steps ok_De_judgeNew 2 (x' := (if (256 : Int32) ≤ (S.2.1 401 10) then 35 else 31, [some (.ref 20), some (.ref 2)], [], h0, 0, 0)) rfl (Nat.le_of_ble_eq_true rfl) (Nat.le_of_ble_eq_true rfl) ?_
    refine am_if (fun hc10 => ?_) (fun hc10 => ?_)
    · rw [if_pos hc10] at hd
      refine am_steps ok_De_judgeNew 1 (x' := (37, [some (.ref 20), some (.ref 2)], [.int 12], h0, 0, 0)) rfl (Nat.le_of_ble_eq_true rfl) (Nat.le_of_ble_eq_true rfl) ?_
      cases hd; exact am_ret ok_De_judgeNew rfl (Nat.le_of_ble_eq_true rfl) (Nat.le_of_ble_eq_true rfl) ⟨rfl, rfl⟩
    · rw [if_neg hc10] at hd
      refine am_steps ok_De_judgeNew 2 (x' := (37, [some (.ref 20), some (.ref 2)], [.int 0], h0, 0, 0)) rfl (Nat.le_of_ble_eq_true rfl) (Nat.le_of_ble_eq_true rfl) ?_
      cases hd; exact am_ret ok_De_judgeNew rfl (Nat.le_of_ble_eq_true rfl) (Nat.le_of_ble_eq_true rfl) ⟨rfl, rfl⟩
  · rw [if_neg hc9] at hd
    refine am_steps ok_De_judgeNew 1 (x' := (17, [some (.ref 20), some (.ref 2)], [.int 8], h0, 0, 0)) rfl (Nat.le_of_ble_eq_true rfl) (Nat.le_of_ble_eq_true rfl) ?_
    cases hd; exact am_ret ok_De_judgeNew rfl (Nat.le_of_ble_eq_true rfl) (Nat.le_of_ble_eq_true rfl) ⟨rfl, rfl⟩
def h_De_judgeAsset  (S : hS) : Option (Int32) := (h_Bo_findAsset (S.2.1 814 2) S).bind fun q1 => (if (q1 : Int32) = (-1) then (if (64 : Int32) ≤ (S.2.1 403 10) then (some 12) else (some 0)) else (some 8))
set_option maxHeartbeats 4000000 in
set_option maxRecDepth 100000 in
theorem c_De_judgeAsset  (S : hS) (h0 : am_H) (hR : RH S h0)  (q : Int32) (hd : h_De_judgeAsset  S = some q) : am_Me am_Pr none 1 22 0 0 141 [.ref 20, .ref 2] h0 (am_is (some (.int q)) h0) := by
  refine am_enter (d := hd_De_judgeAsset) rfl (by decide +kernel) (Nat.le_of_ble_eq_true rfl) ?_
  show am_S _ _ _ _ _ _ _ (0, [some (.ref 20), some (.ref 2)], [], h0, 0, 0) _
  unfold h_De_judgeAsset at hd
  refine am_steps ok_De_judgeAsset 1 (x' := (1, [some (.ref 20), some (.ref 2)], [.ref 20], h0, 0, 0)) rfl (Nat.le_of_ble_eq_true rfl) (Nat.le_of_ble_eq_true rfl) ?_
  refine hr_get ok_De_judgeAsset rfl hR (kd := 5) (hs_k hR (a := 20) rfl) rfl (Nat.le_of_ble_eq_true rfl) (Nat.le_of_ble_eq_true rfl) (v := .ref 10) (congrArg va_rf (hR.2.2.2.2.1 (500, 20, 10) (by decide))) (pc' := 4) rfl (Nat.le_of_ble_eq_true rfl) (Nat.le_of_ble_eq_true rfl) ?_
  refine am_steps ok_De_judgeAsset 1 (x' := (5, [some (.ref 20), some (.ref 2)], [.ref 2, .ref 10], h0, 0, 0)) rfl (Nat.le_of_ble_eq_true rfl) (Nat.le_of_ble_eq_true rfl) ?_
  refine hr_get ok_De_judgeAsset rfl hR (kd := 8) (hs_k hR (a := 2) rfl) rfl (Nat.le_of_ble_eq_true rfl) (Nat.le_of_ble_eq_true rfl) (v := .int (S.2.1 814 2)) rfl (pc' := 8) rfl (Nat.le_of_ble_eq_true rfl) (Nat.le_of_ble_eq_true rfl) ?_
  obtain ⟨q1, hq2, hd3⟩ := Option.bind_eq_some_iff.mp hd; clear hd; have hd := hd3; clear hd3
  refine ar_cv ok_De_judgeAsset hk_Bo_findAsset rfl rfl (As := [.int (S.2.1 814 2)]) (ad := 10) (rest := []) rfl rfl (hR.ob (hs_k hR (a := 10) rfl) (Nat.le_of_ble_eq_true rfl)) (Nat.le_of_ble_eq_true rfl) (c_Bo_findAsset (S.2.1 814 2) S h0 hR  q1 hq2) (Nat.le_of_ble_eq_true rfl) (Nat.le_of_ble_eq_true rfl) (Nat.le_of_ble_eq_true rfl) (Nat.le_of_ble_eq_true rfl) (pc' := 11) rfl (fun r4 h6 z5 => ?_)
  obtain ⟨rfl, z8⟩ := z5; rw [z8]
  show am_S _ _ _ _ _ _ _ (11, [some (.ref 20), some (.ref 2)], [.int q1], h0, 0, 0) _
  refine am_steps ok_De_judgeAsset 2 (x' := (if (q1 : Int32) = (-1) then 18 else 15, [some (.ref 20), some (.ref 2)], [], h0, 0, 0)) rfl (Nat.le_of_ble_eq_true rfl) (Nat.le_of_ble_eq_true rfl) ?_
  refine am_if (fun hc9 => ?_) (fun hc9 => ?_)
  · rw [if_pos hc9] at hd
    refine am_steps ok_De_judgeAsset 1 (x' := (19, [some (.ref 20), some (.ref 2)], [.ref 20], h0, 0, 0)) rfl (Nat.le_of_ble_eq_true rfl) (Nat.le_of_ble_eq_true rfl) ?_
    refine hr_get ok_De_judgeAsset rfl hR (kd := 5) (hs_k hR (a := 20) rfl) rfl (Nat.le_of_ble_eq_true rfl) (Nat.le_of_ble_eq_true rfl) (v := .ref 10) (congrArg va_rf (hR.2.2.2.2.1 (500, 20, 10) (by decide))) (pc' := 22) rfl (Nat.le_of_ble_eq_true rfl) (Nat.le_of_ble_eq_true rfl) ?_
    refine hr_get ok_De_judgeAsset rfl hR (kd := 4) (hs_k hR (a := 10) rfl) rfl (Nat.le_of_ble_eq_true rfl) (Nat.le_of_ble_eq_true rfl) (v := .int (S.2.1 403 10)) rfl (pc' := 25) rfl (Nat.le_of_ble_eq_true rfl) (Nat.le_of_ble_eq_true rfl) ?_
    refine am_steps ok_De_judgeAsset 2 (x' := (if (64 : Int32) ≤ (S.2.1 403 10) then 34 else 30, [some (.ref 20), some (.ref 2)], [], h0, 0, 0)) rfl (Nat.le_of_ble_eq_true rfl) (Nat.le_of_ble_eq_true rfl) ?_
    refine am_if (fun hc10 => ?_) (fun hc10 => ?_)
    · rw [if_pos hc10] at hd
      refine am_steps ok_De_judgeAsset 1 (x' := (36, [some (.ref 20), some (.ref 2)], [.int 12], h0, 0, 0)) rfl (Nat.le_of_ble_eq_true rfl) (Nat.le_of_ble_eq_true rfl) ?_
      cases hd; exact am_ret ok_De_judgeAsset rfl (Nat.le_of_ble_eq_true rfl) (Nat.le_of_ble_eq_true rfl) ⟨rfl, rfl⟩
    · rw [if_neg hc10] at hd
      refine am_steps ok_De_judgeAsset 2 (x' := (36, [some (.ref 20), some (.ref 2)], [.int 0], h0, 0, 0)) rfl (Nat.le_of_ble_eq_true rfl) (Nat.le_of_ble_eq_true rfl) ?_
      cases hd; exact am_ret ok_De_judgeAsset rfl (Nat.le_of_ble_eq_true rfl) (Nat.le_of_ble_eq_true rfl) ⟨rfl, rfl⟩
  · rw [if_neg hc9] at hd
    refine am_steps ok_De_judgeAsset 1 (x' := (17, [some (.ref 20), some (.ref 2)], [.int 8], h0, 0, 0)) rfl (Nat.le_of_ble_eq_true rfl) (Nat.le_of_ble_eq_true rfl) ?_
    cases hd; exact am_ret ok_De_judgeAsset rfl (Nat.le_of_ble_eq_true rfl) (Nat.le_of_ble_eq_true rfl) ⟨rfl, rfl⟩
def h_Bo_pledgedOf (a : Int32) (b : Int32) (S : hS) : Option (Int64) := (am_ix a 256).bind fun j1 => (((S.2.2.2.2.2.2 11 j1)).bind fun b4 => (((S.2.2.2.1 902 b4)).bind fun b8 => ((am_ix b (hln S.1 b8)).bind fun j12 => (if (S.2.2.2.2.2.2 b8 j12) = none then (some 0) else (((S.2.2.2.2.2.2 b8 j12)).bind fun b16 => ((am_ix b 64).bind fun j20 => (((S.2.2.2.2.2.2 12 j20)).bind fun b23 => (if ¬ ((S.2.1 301 b23) : Int32) = 0 then (some (S.2.2.1 1003 b16)) else (some 0)))))))))
set_option maxHeartbeats 4000000 in
set_option maxRecDepth 100000 in
theorem c_Bo_pledgedOf (a : Int32) (b : Int32) (S : hS) (h0 : am_H) (hR : RH S h0)  (q : Int64) (hd : h_Bo_pledgedOf a b S = some q) : am_Me am_Pr none 0 0 0 0 113 [.ref 10, .int a, .int b] h0 (am_is (some (.long q)) h0) := by
  refine am_enter (d := hd_Bo_pledgedOf) rfl (by decide +kernel) (Nat.le_of_ble_eq_true rfl) ?_
  show am_S _ _ _ _ _ _ _ (0, [some (.ref 10), some (.int a), some (.int b), none], [], h0, 0, 0) _
  unfold h_Bo_pledgedOf at hd
  refine am_steps ok_Bo_pledgedOf 1 (x' := (1, [some (.ref 10), some (.int a), some (.int b), none], [.ref 10], h0, 0, 0)) rfl (Nat.le_of_ble_eq_true rfl) (Nat.le_of_ble_eq_true rfl) ?_
  refine hr_get ok_Bo_pledgedOf rfl hR (kd := 4) (hs_k hR (a := 10) rfl) rfl (Nat.le_of_ble_eq_true rfl) (Nat.le_of_ble_eq_true rfl) (v := .ref 11) (congrArg va_rf (hR.2.2.2.2.1 (400, 10, 11) (by decide))) (pc' := 4) rfl (Nat.le_of_ble_eq_true rfl) (Nat.le_of_ble_eq_true rfl) ?_
  refine am_steps ok_Bo_pledgedOf 1 (x' := (5, [some (.ref 10), some (.int a), some (.int b), none], [.int a, .ref 11], h0, 0, 0)) rfl (Nat.le_of_ble_eq_true rfl) (Nat.le_of_ble_eq_true rfl) ?_
  obtain ⟨j1, hx2, hd3⟩ := Option.bind_eq_some_iff.mp hd; clear hd; have hd := hd3; clear hd3
  refine hr_aald ok_Bo_pledgedOf rfl hR (kd := 24) (hs_k hR (a := 11) rfl) (by decide) (hs_ln hR rfl) hx2 (pc' := 6) rfl (Nat.le_of_ble_eq_true rfl) (Nat.le_of_ble_eq_true rfl) ?_
  obtain ⟨b4, hb5, hd6⟩ := Option.bind_eq_some_iff.mp hd; clear hd; have hd := hd6; clear hd6
  have hk7 := (fun b hb => hR.2.2.2.1 _ _ (hK.ln (hs_k hR (a := 11) rfl)) _ b hb) b4 hb5
  rw [hb5]
  show am_S _ _ _ _ _ _ _ (6, [some (.ref 10), some (.int a), some (.int b), none], [.ref b4], h0, 0, 0) _
  refine hr_get ok_Bo_pledgedOf rfl hR (kd := 9) hk7 rfl (Nat.le_of_ble_eq_true rfl) (Nat.le_of_ble_eq_true rfl) (v := va_rf (S.2.2.2.1 902 b4)) rfl (pc' := 9) rfl (Nat.le_of_ble_eq_true rfl) (Nat.le_of_ble_eq_true rfl) ?_
  refine am_steps ok_Bo_pledgedOf 1 (x' := (10, [some (.ref 10), some (.int a), some (.int b), none], [.int b, va_rf (S.2.2.2.1 902 b4)], h0, 0, 0)) rfl (Nat.le_of_ble_eq_true rfl) (Nat.le_of_ble_eq_true rfl) ?_
  obtain ⟨b8, hb9, hd10⟩ := Option.bind_eq_some_iff.mp hd; clear hd; have hd := hd10; clear hd10
  have hk11 := (fun b hb => hR.2.2.1 902 _ b hb) b8 hb9
  rw [hb9]
  show am_S _ _ _ _ _ _ _ (10, [some (.ref 10), some (.int a), some (.int b), none], [.int b, .ref b8], h0, 0, 0) _
  obtain ⟨j12, hx13, hd14⟩ := Option.bind_eq_some_iff.mp hd; clear hd; have hd := hd14; clear hd14
  refine hr_aald ok_Bo_pledgedOf rfl hR (kd := 26) hk11 (by decide) rfl hx13 (pc' := 11) rfl (Nat.le_of_ble_eq_true rfl) (Nat.le_of_ble_eq_true rfl) ?_
  refine hr_astoren ok_Bo_pledgedOf rfl (Nat.le_of_ble_eq_true rfl) (lo' := [some (.ref 10), some (.int a), some (.int b), some (va_rf (S.2.2.2.2.2.2 b8 j12))]) rfl (pc' := 12) rfl (Nat.le_of_ble_eq_true rfl) (Nat.le_of_ble_eq_true rfl) ?_
  refine hr_aloadn ok_Bo_pledgedOf rfl rfl (pc' := 13) rfl (Nat.le_of_ble_eq_true rfl) (Nat.le_of_ble_eq_true rfl) ?_
  refine hr_ifnull ok_Bo_pledgedOf rfl (pc' := 16) rfl (Nat.le_of_ble_eq_true rfl) (Nat.le_of_ble_eq_true rfl) ?_
  refine am_if (fun hc15 => ?_) (fun hc15 => ?_)
  · rw [if_pos hc15] at hd
    refine am_steps ok_Bo_pledgedOf 2 (x' := (36, [some (.ref 10), some (.int a), some (.int b), some (va_rf (S.2.2.2.2.2.2 b8 j12))], [.long 0], h0, 0, 0)) rfl (Nat.le_of_ble_eq_true rfl) (Nat.le_of_ble_eq_true rfl) ?_
    cases hd; exact am_ret ok_Bo_pledgedOf rfl (Nat.le_of_ble_eq_true rfl) (Nat.le_of_ble_eq_true rfl) ⟨rfl, rfl⟩
  · rw [if_neg hc15] at hd
    obtain ⟨b16, hb17, hd18⟩ := Option.bind_eq_some_iff.mp hd; clear hd; have hd := hd18; clear hd18
    have hk19 := (fun b hb => hR.2.2.2.1 _ _ (hK.ln hk11) _ b hb) b16 hb17
    rw [hb17]
    show am_S _ _ _ _ _ _ _ (16, [some (.ref 10), some (.int a), some (.int b), some (.ref b16)], [], h0, 0, 0) _
    refine am_steps ok_Bo_pledgedOf 1 (x' := (17, [some (.ref 10), some (.int a), some (.int b), some (.ref b16)], [.ref 10], h0, 0, 0)) rfl (Nat.le_of_ble_eq_true rfl) (Nat.le_of_ble_eq_true rfl) ?_
    refine hr_get ok_Bo_pledgedOf rfl hR (kd := 4) (hs_k hR (a := 10) rfl) rfl (Nat.le_of_ble_eq_true rfl) (Nat.le_of_ble_eq_true rfl) (v := .ref 12) (congrArg va_rf (hR.2.2.2.2.1 (402, 10, 12) (by decide))) (pc' := 20) rfl (Nat.le_of_ble_eq_true rfl) (Nat.le_of_ble_eq_true rfl) ?_
    refine am_steps ok_Bo_pledgedOf 1 (x' := (21, [some (.ref 10), some (.int a), some (.int b), some (.ref b16)], [.int b, .ref 12], h0, 0, 0)) rfl (Nat.le_of_ble_eq_true rfl) (Nat.le_of_ble_eq_true rfl) ?_
    obtain ⟨j20, hx21, hd22⟩ := Option.bind_eq_some_iff.mp hd; clear hd; have hd := hd22; clear hd22
    refine hr_aald ok_Bo_pledgedOf rfl hR (kd := 25) (hs_k hR (a := 12) rfl) (by decide) (hs_ln hR rfl) hx21 (pc' := 22) rfl (Nat.le_of_ble_eq_true rfl) (Nat.le_of_ble_eq_true rfl) ?_
    obtain ⟨b23, hb24, hd25⟩ := Option.bind_eq_some_iff.mp hd; clear hd; have hd := hd25; clear hd25
    have hk26 := (fun b hb => hR.2.2.2.1 _ _ (hK.ln (hs_k hR (a := 12) rfl)) _ b hb) b23 hb24
    rw [hb24]
    show am_S _ _ _ _ _ _ _ (22, [some (.ref 10), some (.int a), some (.int b), some (.ref b16)], [.ref b23], h0, 0, 0) _
    refine hr_get ok_Bo_pledgedOf rfl hR (kd := 3) hk26 rfl (Nat.le_of_ble_eq_true rfl) (Nat.le_of_ble_eq_true rfl) (v := .int (S.2.1 301 b23)) rfl (pc' := 25) rfl (Nat.le_of_ble_eq_true rfl) (Nat.le_of_ble_eq_true rfl) ?_
    refine am_steps ok_Bo_pledgedOf 1 (x' := (if ¬ ((S.2.1 301 b23) : Int32) = 0 then 32 else 28, [some (.ref 10), some (.int a), some (.int b), some (.ref b16)], [], h0, 0, 0)) rfl (Nat.le_of_ble_eq_true rfl) (Nat.le_of_ble_eq_true rfl) ?_
    refine am_if (fun hc27 => ?_) (fun hc27 => ?_)
    · rw [if_pos hc27] at hd
      refine am_steps ok_Bo_pledgedOf 1 (x' := (33, [some (.ref 10), some (.int a), some (.int b), some (.ref b16)], [.ref b16], h0, 0, 0)) rfl (Nat.le_of_ble_eq_true rfl) (Nat.le_of_ble_eq_true rfl) ?_
      refine hr_get ok_Bo_pledgedOf rfl hR (kd := 10) hk19 rfl (Nat.le_of_ble_eq_true rfl) (Nat.le_of_ble_eq_true rfl) (v := .long (S.2.2.1 1003 b16)) rfl (pc' := 36) rfl (Nat.le_of_ble_eq_true rfl) (Nat.le_of_ble_eq_true rfl) ?_
      cases hd; exact am_ret ok_Bo_pledgedOf rfl (Nat.le_of_ble_eq_true rfl) (Nat.le_of_ble_eq_true rfl) ⟨rfl, rfl⟩
    · rw [if_neg hc27] at hd
      refine am_steps ok_Bo_pledgedOf 2 (x' := (36, [some (.ref 10), some (.int a), some (.int b), some (.ref b16)], [.long 0], h0, 0, 0)) rfl (Nat.le_of_ble_eq_true rfl) (Nat.le_of_ble_eq_true rfl) ?_
      cases hd; exact am_ret ok_Bo_pledgedOf rfl (Nat.le_of_ble_eq_true rfl) (Nat.le_of_ble_eq_true rfl) ⟨rfl, rfl⟩
