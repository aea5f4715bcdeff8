/-! Methods of the class as functions of its state. -/
def hl_Me_hasRightCheckDigits_4 : Nat → Int32 → Int32 → hS → Option (Int32)
  | 0, _, _, _ => none
  | fu + 1, v1, v2, s => if ((s.2.1 801 2) : Int32) ≤ v2 then (some v1) else ((am_ix v2 400).bind fun j2 => ((h_Me_isDigit (s.2.2.2.2.1 1 j2)).bind fun q5 => ((if (q5 : Int32) = 0 then (some 100) else (some 10)).bind fun (u13 : Int32) => ((h_Me_valueOf (s.2.2.2.2.1 1 j2)).bind fun q17 => (hl_Me_hasRightCheckDigits_4 fu (((v1 * u13) + q17) - ((v1 * u13) + q17) / 97 * 97) (v2 + 1) s)))))
set_option maxHeartbeats 4000000 in
set_option maxRecDepth 100000 in
theorem Lc_Me_hasRightCheckDigits_4 {Q : Option Value → am_H → Prop} (s : hS) (h : am_H) (hR : RH s h) : ∀ (fu : Nat) (v1 : Int32) (v2 : Int32), ∀ (q : Int32), hl_Me_hasRightCheckDigits_4 fu v1 v2 s = some q → (am_S am_Pr none 1 20 0 0 190 (55, [some (.ref 2), some (.int q), none, none], [], h, 0, 0) Q) → am_S am_Pr none 1 20 0 0 190 (4, [some (.ref 2), some (.int v1), some (.int v2), none], [], h, 0, 0) Q := by
  intro fu
  induction fu with
  | zero => intro v1 v2  q hd; cases hd
  | succ fu ih =>
    intro v1 v2  q hd kk
    unfold hl_Me_hasRightCheckDigits_4 at hd
    refine am_steps ok_Me_hasRightCheckDigits 2 (x' := (6, [some (.ref 2), some (.int v1), some (.int v2), none], [.ref 2, .int v2], h, 0, 0)) rfl (Nat.le_of_ble_eq_true rfl) (Nat.le_of_ble_eq_true rfl) ?_
    refine hr_get ok_Me_hasRightCheckDigits rfl hR (kd := 8) (hs_k hR (a := 2) rfl) rfl (Nat.le_of_ble_eq_true rfl) (Nat.le_of_ble_eq_true rfl) (v := .int (s.2.1 801 2)) rfl (pc' := 9) rfl (Nat.le_of_ble_eq_true rfl) (Nat.le_of_ble_eq_true rfl) ?_
    refine am_steps ok_Me_hasRightCheckDigits 1 (x' := (if ((s.2.1 801 2) : Int32) ≤ v2 then 55 else 12, [some (.ref 2), some (.int v1), some (.int v2), none], [], h, 0, 0)) rfl (Nat.le_of_ble_eq_true rfl) (Nat.le_of_ble_eq_true rfl) ?_
    refine am_if (fun hc1 => ?_) (fun hc1 => ?_)
    · rw [if_pos hc1] at hd
      refine am_drop 2 ?_
      cases hd; exact kk 
    · rw [if_neg hc1] at hd
      refine am_steps ok_Me_hasRightCheckDigits 1 (x' := (13, [some (.ref 2), some (.int v1), some (.int v2), none], [.ref 2], h, 0, 0)) rfl (Nat.le_of_ble_eq_true rfl) (Nat.le_of_ble_eq_true rfl) ?_
      refine hr_get ok_Me_hasRightCheckDigits rfl hR (kd := 8) (hs_k hR (a := 2) rfl) rfl (Nat.le_of_ble_eq_true rfl) (Nat.le_of_ble_eq_true rfl) (v := .ref 1) (congrArg va_rf (hR.2.2.2.2.1 (800, 2, 1) (by decide))) (pc' := 16) rfl (Nat.le_of_ble_eq_true rfl) (Nat.le_of_ble_eq_true rfl) ?_
      refine am_steps ok_Me_hasRightCheckDigits 1 (x' := (17, [some (.ref 2), some (.int v1), some (.int v2), none], [.int v2, .ref 1], h, 0, 0)) rfl (Nat.le_of_ble_eq_true rfl) (Nat.le_of_ble_eq_true rfl) ?_
      obtain ⟨j2, hx3, hd4⟩ := Option.bind_eq_some_iff.mp hd; clear hd; have hd := hd4; clear hd4
      refine hr_bald ok_Me_hasRightCheckDigits rfl hR (kd := 22) (hs_k hR (a := 1) rfl) (by decide) (hs_ln hR rfl) hx3 (pc' := 18) rfl (Nat.le_of_ble_eq_true rfl) (Nat.le_of_ble_eq_true rfl) ?_
      obtain ⟨q5, hq6, hd7⟩ := Option.bind_eq_some_iff.mp hd; clear hd; have hd := hd7; clear hd7
      refine am_call ok_Me_hasRightCheckDigits hk_Me_isDigit rfl (args' := [.int (s.2.2.2.2.1 1 j2)]) (rest := []) rfl (c_Me_isDigit (s.2.2.2.2.1 1 j2) h q5 hq6) (Nat.le_of_ble_eq_true rfl) (Nat.le_of_ble_eq_true rfl) (Nat.le_of_ble_eq_true rfl) (Nat.le_of_ble_eq_true rfl) (fun r8 h10 z9 => ?_)
      obtain ⟨rfl, z12⟩ := z9; rw [z12]
      show am_S _ _ _ _ _ _ _ (21, [some (.ref 2), some (.int v1), some (.int v2), none], [.int q5], h, 0, 0) _
      refine am_steps ok_Me_hasRightCheckDigits 1 (x' := (if (q5 : Int32) = 0 then 29 else 24, [some (.ref 2), some (.int v1), some (.int v2), none], [], h, 0, 0)) rfl (Nat.le_of_ble_eq_true rfl) (Nat.le_of_ble_eq_true rfl) ?_
      obtain ⟨u13, hA15, hB16⟩ := Option.bind_eq_some_iff.mp hd; clear hd
      have K14 : am_S am_Pr none 1 20 0 0 190 (31, [some (.ref 2), some (.int v1), some (.int v2), none], [.int u13], h, 0, 0) Q := by
        have hd := hB16
        refine am_steps ok_Me_hasRightCheckDigits 5 (x' := (36, [some (.ref 2), some (.int v1), some (.int v2), some (.int u13)], [.ref 2, .int (v1 * u13)], h, 0, 0)) rfl (Nat.le_of_ble_eq_true rfl) (Nat.le_of_ble_eq_true rfl) ?_
        refine hr_get ok_Me_hasRightCheckDigits rfl hR (kd := 8) (hs_k hR (a := 2) rfl) rfl (Nat.le_of_ble_eq_true rfl) (Nat.le_of_ble_eq_true rfl) (v := .ref 1) (congrArg va_rf (hR.2.2.2.2.1 (800, 2, 1) (by decide))) (pc' := 39) rfl (Nat.le_of_ble_eq_true rfl) (Nat.le_of_ble_eq_true rfl) ?_
        refine am_steps ok_Me_hasRightCheckDigits 1 (x' := (40, [some (.ref 2), some (.int v1), some (.int v2), some (.int u13)], [.int v2, .ref 1, .int (v1 * u13)], h, 0, 0)) rfl (Nat.le_of_ble_eq_true rfl) (Nat.le_of_ble_eq_true rfl) ?_
        refine hr_bald ok_Me_hasRightCheckDigits rfl hR (kd := 22) (hs_k hR (a := 1) rfl) (by decide) (hs_ln hR rfl) hx3 (pc' := 41) rfl (Nat.le_of_ble_eq_true rfl) (Nat.le_of_ble_eq_true rfl) ?_
        obtain ⟨q17, hq18, hd19⟩ := Option.bind_eq_some_iff.mp hd; clear hd; have hd := hd19; clear hd19
        refine am_call ok_Me_hasRightCheckDigits hk_Me_valueOf rfl (args' := [.int (s.2.2.2.2.1 1 j2)]) (rest := [.int (v1 * u13)]) rfl (c_Me_valueOf (s.2.2.2.2.1 1 j2) h q17 hq18) (Nat.le_of_ble_eq_true rfl) (Nat.le_of_ble_eq_true rfl) (Nat.le_of_ble_eq_true rfl) (Nat.le_of_ble_eq_true rfl) (fun r20 h22 z21 => ?_)
        obtain ⟨rfl, z24⟩ := z21; rw [z24]
        show am_S _ _ _ _ _ _ _ (44, [some (.ref 2), some (.int v1), some (.int v2), some (.int u13)], [.int q17, .int (v1 * u13)], h, 0, 0) _
        refine am_steps ok_Me_hasRightCheckDigits 2 (x' := (47, [some (.ref 2), some (.int v1), some (.int v2), some (.int u13)], [.int 97, .int ((v1 * u13) + q17)], h, 0, 0)) rfl (Nat.le_of_ble_eq_true rfl) (Nat.le_of_ble_eq_true rfl) ?_
        refine ar_irem ok_Me_hasRightCheckDigits rfl (by decide +kernel) (w := (((v1 * u13) + q17) - ((v1 * u13) + q17) / 97 * 97)) rfl (pc' := 48) rfl (Nat.le_of_ble_eq_true rfl) (Nat.le_of_ble_eq_true rfl) ?_
        refine am_steps ok_Me_hasRightCheckDigits 3 (x' := (4, [some (.ref 2), some (.int (((v1 * u13) + q17) - ((v1 * u13) + q17) / 97 * 97)), some (.int (v2 + 1)), some (.int u13)], [], h, 0, 0)) rfl (Nat.le_of_ble_eq_true rfl) (Nat.le_of_ble_eq_true rfl) ?_
        refine am_drop 3 ?_
        exact ih (((v1 * u13) + q17) - ((v1 * u13) + q17) / 97 * 97) (v2 + 1)  q hd kk
      clear hB16; have hd := hA15; clear hA15
      refine am_if (fun hc25 => ?_) (fun hc25 => ?_)
      · rw [if_pos hc25] at hd
        refine am_steps ok_Me_hasRightCheckDigits 1 (x' := (31, [some (.ref 2), some (.int v1), some (.int v2), none], [.int 100], h, 0, 0)) rfl (Nat.le_of_ble_eq_true rfl) (Nat.le_of_ble_eq_true rfl) ?_
        cases hd; exact K14 
      · rw [if_neg hc25] at hd
        refine am_steps ok_Me_hasRightCheckDigits 2 (x' := (31, [some (.ref 2), some (.int v1), some (.int v2), none], [.int 10], h, 0, 0)) rfl (Nat.le_of_ble_eq_true rfl) (Nat.le_of_ble_eq_true rfl) ?_
        cases hd; exact K14 
def h_Me_hasRightCheckDigits  (S : hS) : Option (Int32) := (hl_Me_hasRightCheckDigits_4 100000 0 0 S).bind fun q26 => (if ¬ (q26 : Int32) = 1 then (some 0) else ((am_ix ((S.2.1 801 2) - 1) 400).bind fun j30 => ((h_Me_isDigit (S.2.2.2.2.1 1 j30)).bind fun q33 => (if (q33 : Int32) = 0 then (some 0) else ((am_ix ((S.2.1 801 2) - 2) 400).bind fun j42 => ((h_Me_isDigit (S.2.2.2.2.1 1 j42)).bind fun q45 => (if (q45 : Int32) = 0 then (some 0) else (some 1))))))))
set_option maxHeartbeats 4000000 in
set_option maxRecDepth 100000 in
theorem c_Me_hasRightCheckDigits  (S : hS) (h0 : am_H) (hR : RH S h0)  (q : Int32) (hd : h_Me_hasRightCheckDigits  S = some q) : am_Me am_Pr none 1 20 0 0 190 [.ref 2] h0 (am_is (some (.int q)) h0) := by
  refine am_enter (d := hd_Me_hasRightCheckDigits) rfl (by decide +kernel) (Nat.le_of_ble_eq_true rfl) ?_
  show am_S _ _ _ _ _ _ _ (0, [some (.ref 2), none, none, none], [], h0, 0, 0) _
  unfold h_Me_hasRightCheckDigits at hd
  refine am_steps ok_Me_hasRightCheckDigits 4 (x' := (4, [some (.ref 2), some (.int 0), some (.int 0), none], [], h0, 0, 0)) rfl (Nat.le_of_ble_eq_true rfl) (Nat.le_of_ble_eq_true rfl) ?_
  obtain ⟨q26, hq27, hd28⟩ := Option.bind_eq_some_iff.mp hd; clear hd; have hd := hd28; clear hd28
  refine Lc_Me_hasRightCheckDigits_4 S h0 hR 100000 0 0  q26 hq27 ?_
  show am_S _ _ _ _ _ _ _ (55, [some (.ref 2), some (.int q26), none, none], [], h0, 0, 0) _
  refine am_steps ok_Me_hasRightCheckDigits 3 (x' := (if ¬ (q26 : Int32) = 1 then 98 else 60, [some (.ref 2), some (.int q26), none, none], [], h0, 0, 0)) rfl (Nat.le_of_ble_eq_true rfl) (Nat.le_of_ble_eq_true rfl) ?_
  refine am_if (fun hc29 => ?_) (fun hc29 => ?_)
  · rw [if_pos hc29] at hd
    refine am_steps ok_Me_hasRightCheckDigits 1 (x' := (99, [some (.ref 2), some (.int q26), none, none], [.int 0], h0, 0, 0)) rfl (Nat.le_of_ble_eq_true rfl) (Nat.le_of_ble_eq_true rfl) ?_
    cases hd; exact am_ret ok_Me_hasRightCheckDigits rfl (Nat.le_of_ble_eq_true rfl) (Nat.le_of_ble_eq_true rfl) ⟨rfl, rfl⟩
  · rw [if_neg hc29] at hd
    refine am_steps ok_Me_hasRightCheckDigits 1 (x' := (61, [some (.ref 2), some (.int q26), none, none], [.ref 2], h0, 0, 0)) rfl (Nat.le_of_ble_eq_true rfl) (Nat.le_of_ble_eq_true rfl) ?_
    refine hr_get ok_Me_hasRightCheckDigits rfl hR (kd := 8) (hs_k hR (a := 2) rfl) rfl (Nat.le_of_ble_eq_true rfl) (Nat.le_of_ble_eq_true rfl) (v := .ref 1) (congrArg va_rf (hR.2.2.2.2.1 (800, 2, 1) (by decide))) (pc' := 64) rfl (Nat.le_of_ble_eq_true rfl) (Nat.le_of_ble_eq_true rfl) ?_
    refine am_steps ok_Me_hasRightCheckDigits 1 (x' := (65, [some (.ref 2), some (.int q26), none, none], [.ref 2, .ref 1], h0, 0, 0)) rfl (Nat.le_of_ble_eq_true rfl) (Nat.le_of_ble_eq_true rfl) ?_
    refine hr_get ok_Me_hasRightCheckDigits rfl hR (kd := 8) (hs_k hR (a := 2) rfl) rfl (Nat.le_of_ble_eq_true rfl) (Nat.le_of_ble_eq_true rfl) (v := .int (S.2.1 801 2)) rfl (pc' := 68) rfl (Nat.le_of_ble_eq_true rfl) (Nat.le_of_ble_eq_true rfl) ?_
    refine am_steps ok_Me_hasRightCheckDigits 2 (x' := (70, [some (.ref 2), some (.int q26), none, none], [.int ((S.2.1 801 2) - 1), .ref 1], h0, 0, 0)) rfl (Nat.le_of_ble_eq_true rfl) (Nat.le_of_ble_eq_true rfl) ?_
    obtain ⟨j30, hx31, hd32⟩ := Option.bind_eq_some_iff.mp hd; clear hd; have hd := hd32; clear hd32
    refine hr_bald ok_Me_hasRightCheckDigits rfl hR (kd := 22) (hs_k hR (a := 1) rfl) (by decide) (hs_ln hR rfl) hx31 (pc' := 71) rfl (Nat.le_of_ble_eq_true rfl) (Nat.le_of_ble_eq_true rfl) ?_
    obtain ⟨q33, hq34, hd35⟩ := Option.bind_eq_some_iff.mp hd; clear hd; have hd := hd35; clear hd35
    refine am_call ok_Me_hasRightCheckDigits hk_Me_isDigit rfl (args' := [.int (S.2.2.2.2.1 1 j30)]) (rest := []) rfl (c_Me_isDigit (S.2.2.2.2.1 1 j30) h0 q33 hq34) (Nat.le_of_ble_eq_true rfl) (Nat.le_of_ble_eq_true rfl) (Nat.le_of_ble_eq_true rfl) (Nat.le_of_ble_eq_true rfl) (fun r36 h38 z37 => ?_)
    obtain ⟨rfl, z40⟩ := z37; rw [z40]
    show am_S _ _ _ _ _ _ _ (74, [some (.ref 2), some (.int q26), none, none], [.int q33], h0, 0, 0) _
    refine am_steps ok_Me_hasRightCheckDigits 1 (x' := (if (q33 : Int32) = 0 then 98 else 77, [some (.ref 2), some (.int q26), none, none], [], h0, 0, 0)) rfl (Nat.le_of_ble_eq_true rfl) (Nat.le_of_ble_eq_true rfl) ?_
    refine am_if (fun hc41 => ?_) (fun hc41 => ?_)
    · rw [if_pos hc41] at hd
      refine am_steps ok_Me_hasRightCheckDigits 1 (x' := (99, [some (.ref 2), some (.int q26), none, none], [.int 0], h0, 0, 0)) rfl (Nat.le_of_ble_eq_true rfl) (Nat.le_of_ble_eq_true rfl) ?_
      cases hd; exact am_ret ok_Me_hasRightCheckDigits rfl (Nat.le_of_ble_eq_true rfl) (Nat.le_of_ble_eq_true rfl) ⟨rfl, rfl⟩
    · rw [if_neg hc41] at hd
      refine am_steps ok_Me_hasRightCheckDigits 1 (x' := (78, [some (.ref 2), some (.int q26), none, none], [.ref 2], h0, 0, 0)) rfl (Nat.le_of_ble_eq_true rfl) (Nat.le_of_ble_eq_true rfl) ?_
      refine hr_get ok_Me_hasRightCheckDigits rfl hR (kd := 8) (hs_k hR (a := 2) rfl) rfl (Nat.le_of_ble_eq_true rfl) (Nat.le_of_ble_eq_true rfl) (v := .ref 1) (congrArg va_rf (hR.2.2.2.2.1 (800, 2, 1) (by decide))) (pc' := 81) rfl (Nat.le_of_ble_eq_true rfl) (Nat.le_of_ble_eq_true rfl) ?_
      refine am_steps ok_Me_hasRightCheckDigits 1 (x' := (82, [some (.ref 2), some (.int q26), none, none], [.ref 2, .ref 1], h0, 0, 0)) rfl (Nat.le_of_ble_eq_true rfl) (Nat.le_of_ble_eq_true rfl) ?_
      refine hr_get ok_Me_hasRightCheckDigits rfl hR (kd := 8) (hs_k hR (a := 2) rfl) rfl (Nat.le_of_ble_eq_true rfl) (Nat.le_of_ble_eq_true rfl) (v := .int (S.2.1 801 2)) rfl (pc' := 85) rfl (Nat.le_of_ble_eq_true rfl) (Nat.le_of_ble_eq_true rfl) ?_
      refine am_steps ok_Me_hasRightCheckDigits 2 (x' := (87, [some (.ref 2), some (.int q26), none, none], [.int ((S.2.1 801 2) - 2), .ref 1], h0, 0, 0)) rfl (Nat.le_of_ble_eq_true rfl) (Nat.le_of_ble_eq_true rfl) ?_
      obtain ⟨j42, hx43, hd44⟩ := Option.bind_eq_some_iff.mp hd; clear hd; have hd := hd44; clear hd44
      refine hr_bald ok_Me_hasRightCheckDigits rfl hR (kd := 22) (hs_k hR (a := 1) rfl) (by decide) (hs_ln hR rfl) hx43 (pc' := 88) rfl (Nat.le_of_ble_eq_true rfl) (Nat.le_of_ble_eq_true rfl) ?_
      obtain ⟨q45, hq46, hd47⟩ := Option.bind_eq_some_iff.mp hd; clear hd; have hd := hd47; clear hd47
      refine am_call ok_Me_hasRightCheckDigits hk_Me_isDigit rfl (args' := [.int (S.2.2.2.2.1 1 j42)]) (rest := []) rfl (c_Me_isDigit (S.2.2.2.2.1 1 j42) h0 q45 hq46) (Nat.le_of_ble_eq_true rfl) (Nat.le_of_ble_eq_true rfl) (Nat.le_of_ble_eq_true rfl) (Nat.le_of_ble_eq_true rfl) (fun r48 h50 z49 => ?_)
      obtain ⟨rfl, z52⟩ := z49; rw [z52]
      show am_S _ _ _ _ _ _ _ (91, [some (.ref 2), some (.int q26), none, none], [.int q45], h0, 0, 0) _
      refine am_steps ok_Me_hasRightCheckDigits 1 (x' := (if (q45 : Int32) = 0 then 98 else 94, [some (.ref 2), some (.int q26), none, none], [], h0, 0, 0)) rfl (Nat.le_of_ble_eq_true rfl) (Nat.le_of_ble_eq_true rfl) ?_
      refine am_if (fun hc53 => ?_) (fun hc53 => ?_)
      · rw [if_pos hc53] at hd
        refine am_steps ok_Me_hasRightCheckDigits 1 (x' := (99, [some (.ref 2), some (.int q26), none, none], [.int 0], h0, 0, 0)) rfl (Nat.le_of_ble_eq_true rfl) (Nat.le_of_ble_eq_true rfl) ?_
        cases hd; exact am_ret ok_Me_hasRightCheckDigits rfl (Nat.le_of_ble_eq_true rfl) (Nat.le_of_ble_eq_true rfl) ⟨rfl, rfl⟩
      · rw [if_neg hc53] at hd
        refine am_steps ok_Me_hasRightCheckDigits 2 (x' := (99, [some (.ref 2), some (.int q26), none, none], [.int 1], h0, 0, 0)) rfl (Nat.le_of_ble_eq_true rfl) (Nat.le_of_ble_eq_true rfl) ?_
        cases hd; exact am_ret ok_Me_hasRightCheckDigits rfl (Nat.le_of_ble_eq_true rfl) (Nat.le_of_ble_eq_true rfl) ⟨rfl, rfl⟩
def hl_Me_readKind_7 : Nat → Int32 → hS → Option (Int32 × hS)
  | 0, _, _ => none
  | fu + 1, v1, s => (am_sl 6).bind fun q5 => (if (q5 : Int32) < (v1 + 3) then (some ((-1), s)) else ((am_ix 0 400).bind fun j15 => ((am_sc 6 v1).bind fun q18 => (if ¬ ((s.2.2.2.2.1 1 j15) : Int32) = q18 then (hl_Me_readKind_7 fu (v1 + 3) s) else ((am_ix 1 400).bind fun j28 => ((am_sc 6 (v1 + 1)).bind fun q31 => (if ¬ ((s.2.2.2.2.1 1 j28) : Int32) = q31 then (hl_Me_readKind_7 fu (v1 + 3) s) else ((am_ix 2 400).bind fun j41 => ((am_sc 6 (v1 + 2)).bind fun q44 => (if ¬ ((s.2.2.2.2.1 1 j41) : Int32) = q44 then (hl_Me_readKind_7 fu (v1 + 3) s) else (some ((v1 / 3), s))))))))))))
set_option maxHeartbeats 4000000 in
set_option maxRecDepth 100000 in
theorem Lc_Me_readKind_7 (sh0 : List (Nat × Nat)) (h0 : am_H) : ∀ (fu : Nat) (v1 : Int32) (s : hS) (h : am_H), RH s h → hF h0 h → hE sh0 s.1 → ∀ q : Int32 × hS, hl_Me_readKind_7 fu v1 s = some q → am_S am_Pr none 4 85 0 0 191 (7, [some (.ref 2), some (.int v1)], [], h, 0, 0) (hQr (.int q.1) q.2 sh0 h0) := by
  intro fu
  induction fu with
  | zero => intro v1 s h hR f he  q hd; cases hd
  | succ fu ih =>
    intro v1 s h hR f he  q hd
    unfold hl_Me_readKind_7 at hd
    refine am_steps ok_Me_readKind 3 (x' := (10, [some (.ref 2), some (.int v1)], [.int (v1 + 3)], h, 0, 0)) rfl (Nat.le_of_ble_eq_true rfl) (Nat.le_of_ble_eq_true rfl) ?_
    refine ao_ldcS (d0 := hd_Me_readKind) rfl (x := 104) (t := 6) (by decide +kernel) rfl (pc' := 12) rfl ?_
    obtain ⟨q5, hq6, hd7⟩ := Option.bind_eq_some_iff.mp hd; clear hd; have hd := hd7; clear hd7
    obtain ⟨s11, hs12, _⟩ := Option.map_eq_some_iff.mp hq6
    refine ao_callS (d0 := hd_Me_readKind) rfl (x := 106) (a := 499) (j' := 236) hk_St_length rfl rfl hs12 (by decide +kernel) (by decide +kernel) (As := []) (rest := [.int (v1 + 3)]) rfl rfl (Nat.le_of_ble_eq_true rfl) (c_St_length 6 h q5 hq6) (Nat.le_of_ble_eq_true rfl) (Nat.le_of_ble_eq_true rfl) (Nat.le_of_ble_eq_true rfl) (Nat.le_of_ble_eq_true rfl) (pc' := 15) rfl (fun r8 h13 z9 => ?_)
    obtain ⟨rfl, z10⟩ := z9; rw [z10]
    show am_S _ _ _ _ _ _ _ (15, [some (.ref 2), some (.int v1)], [.int q5, .int (v1 + 3)], h, 0, 0) _
    refine am_steps ok_Me_readKind 1 (x' := (if (q5 : Int32) < (v1 + 3) then 77 else 18, [some (.ref 2), some (.int v1)], [], h, 0, 0)) rfl (Nat.le_of_ble_eq_true rfl) (Nat.le_of_ble_eq_true rfl) ?_
    refine am_if (fun hc14 => ?_) (fun hc14 => ?_)
    · rw [if_pos hc14] at hd
      refine am_steps ok_Me_readKind 1 (x' := (78, [some (.ref 2), some (.int v1)], [.int (-1)], h, 0, 0)) rfl (Nat.le_of_ble_eq_true rfl) (Nat.le_of_ble_eq_true rfl) ?_
      cases hd; exact am_ret ok_Me_readKind rfl (Nat.le_of_ble_eq_true rfl) (Nat.le_of_ble_eq_true rfl) ⟨rfl, hR, f, he⟩
    · rw [if_neg hc14] at hd
      refine am_steps ok_Me_readKind 1 (x' := (19, [some (.ref 2), some (.int v1)], [.ref 2], h, 0, 0)) rfl (Nat.le_of_ble_eq_true rfl) (Nat.le_of_ble_eq_true rfl) ?_
      refine hr_get ok_Me_readKind rfl hR (kd := 8) (hs_k hR (a := 2) rfl) rfl (Nat.le_of_ble_eq_true rfl) (Nat.le_of_ble_eq_true rfl) (v := .ref 1) (congrArg va_rf (hR.2.2.2.2.1 (800, 2, 1) (by decide))) (pc' := 22) rfl (Nat.le_of_ble_eq_true rfl) (Nat.le_of_ble_eq_true rfl) ?_
      refine am_steps ok_Me_readKind 1 (x' := (23, [some (.ref 2), some (.int v1)], [.int 0, .ref 1], h, 0, 0)) rfl (Nat.le_of_ble_eq_true rfl) (Nat.le_of_ble_eq_true rfl) ?_
      obtain ⟨j15, hx16, hd17⟩ := Option.bind_eq_some_iff.mp hd; clear hd; have hd := hd17; clear hd17
      refine hr_bald ok_Me_readKind rfl hR (kd := 22) (hs_k hR (a := 1) rfl) (by decide) (hs_ln hR rfl) hx16 (pc' := 24) rfl (Nat.le_of_ble_eq_true rfl) (Nat.le_of_ble_eq_true rfl) ?_
      refine ao_ldcS (d0 := hd_Me_readKind) rfl (x := 104) (t := 6) (by decide +kernel) rfl (pc' := 26) rfl ?_
      refine am_steps ok_Me_readKind 1 (x' := (27, [some (.ref 2), some (.int v1)], [.int v1, .ref (am_M + (10 + 6)), .int (s.2.2.2.2.1 1 j15)], h, 0, 0)) rfl (Nat.le_of_ble_eq_true rfl) (Nat.le_of_ble_eq_true rfl) ?_
      obtain ⟨q18, hq19, hd20⟩ := Option.bind_eq_some_iff.mp hd; clear hd; have hd := hd20; clear hd20
      obtain ⟨s24, hs25, _⟩ := Option.bind_eq_some_iff.mp hq19
      refine ao_callS (d0 := hd_Me_readKind) rfl (x := 110) (a := 509) (j' := 239) hk_St_charAt rfl rfl hs25 (by decide +kernel) (by decide +kernel) (As := [.int v1]) (rest := [.int (s.2.2.2.2.1 1 j15)]) rfl rfl (Nat.le_of_ble_eq_true rfl) (c_St_charAt 6 v1 h q18 hq19) (Nat.le_of_ble_eq_true rfl) (Nat.le_of_ble_eq_true rfl) (Nat.le_of_ble_eq_true rfl) (Nat.le_of_ble_eq_true rfl) (pc' := 30) rfl (fun r21 h26 z22 => ?_)
      obtain ⟨rfl, z23⟩ := z22; rw [z23]
      show am_S _ _ _ _ _ _ _ (30, [some (.ref 2), some (.int v1)], [.int q18, .int (s.2.2.2.2.1 1 j15)], h, 0, 0) _
      refine am_steps ok_Me_readKind 1 (x' := (if ¬ ((s.2.2.2.2.1 1 j15) : Int32) = q18 then 71 else 33, [some (.ref 2), some (.int v1)], [], h, 0, 0)) rfl (Nat.le_of_ble_eq_true rfl) (Nat.le_of_ble_eq_true rfl) ?_
      refine am_if (fun hc27 => ?_) (fun hc27 => ?_)
      · rw [if_pos hc27] at hd
        refine am_steps ok_Me_readKind 2 (x' := (7, [some (.ref 2), some (.int (v1 + 3))], [], h, 0, 0)) rfl (Nat.le_of_ble_eq_true rfl) (Nat.le_of_ble_eq_true rfl) ?_
        exact ih (v1 + 3) s h hR f he  q hd
      · rw [if_neg hc27] at hd
        refine am_steps ok_Me_readKind 1 (x' := (34, [some (.ref 2), some (.int v1)], [.ref 2], h, 0, 0)) rfl (Nat.le_of_ble_eq_true rfl) (Nat.le_of_ble_eq_true rfl) ?_
        refine hr_get ok_Me_readKind rfl hR (kd := 8) (hs_k hR (a := 2) rfl) rfl (Nat.le_of_ble_eq_true rfl) (Nat.le_of_ble_eq_true rfl) (v := .ref 1) (congrArg va_rf (hR.2.2.2.2.1 (800, 2, 1) (by decide))) (pc' := 37) rfl (Nat.le_of_ble_eq_true rfl) (Nat.le_of_ble_eq_true rfl) ?_
        refine am_steps ok_Me_readKind 1 (x' := (38, [some (.ref 2), some (.int v1)], [.int 1, .ref 1], h, 0, 0)) rfl (Nat.le_of_ble_eq_true rfl) (Nat.le_of_ble_eq_true rfl) ?_
        obtain ⟨j28, hx29, hd30⟩ := Option.bind_eq_some_iff.mp hd; clear hd; have hd := hd30; clear hd30
        refine hr_bald ok_Me_readKind rfl hR (kd := 22) (hs_k hR (a := 1) rfl) (by decide) (hs_ln hR rfl) hx29 (pc' := 39) rfl (Nat.le_of_ble_eq_true rfl) (Nat.le_of_ble_eq_true rfl) ?_
        refine ao_ldcS (d0 := hd_Me_readKind) rfl (x := 104) (t := 6) (by decide +kernel) rfl (pc' := 41) rfl ?_
        refine am_steps ok_Me_readKind 3 (x' := (44, [some (.ref 2), some (.int v1)], [.int (v1 + 1), .ref (am_M + (10 + 6)), .int (s.2.2.2.2.1 1 j28)], h, 0, 0)) rfl (Nat.le_of_ble_eq_true rfl) (Nat.le_of_ble_eq_true rfl) ?_
        obtain ⟨q31, hq32, hd33⟩ := Option.bind_eq_some_iff.mp hd; clear hd; have hd := hd33; clear hd33
        obtain ⟨s37, hs38, _⟩ := Option.bind_eq_some_iff.mp hq32
        refine ao_callS (d0 := hd_Me_readKind) rfl (x := 110) (a := 509) (j' := 239) hk_St_charAt rfl rfl hs38 (by decide +kernel) (by decide +kernel) (As := [.int (v1 + 1)]) (rest := [.int (s.2.2.2.2.1 1 j28)]) rfl rfl (Nat.le_of_ble_eq_true rfl) (c_St_charAt 6 (v1 + 1) h q31 hq32) (Nat.le_of_ble_eq_true rfl) (Nat.le_of_ble_eq_true rfl) (Nat.le_of_ble_eq_true rfl) (Nat.le_of_ble_eq_true rfl) (pc' := 47) rfl (fun r34 h39 z35 => ?_)
        obtain ⟨rfl, z36⟩ := z35; rw [z36]
        show am_S _ _ _ _ _ _ _ (47, [some (.ref 2), some (.int v1)], [.int q31, .int (s.2.2.2.2.1 1 j28)], h, 0, 0) _
        refine am_steps ok_Me_readKind 1 (x' := (if ¬ ((s.2.2.2.2.1 1 j28) : Int32) = q31 then 71 else 50, [some (.ref 2), some (.int v1)], [], h, 0, 0)) rfl (Nat.le_of_ble_eq_true rfl) (Nat.le_of_ble_eq_true rfl) ?_
        refine am_if (fun hc40 => ?_) (fun hc40 => ?_)
        · rw [if_pos hc40] at hd
          refine am_steps ok_Me_readKind 2 (x' := (7, [some (.ref 2), some (.int (v1 + 3))], [], h, 0, 0)) rfl (Nat.le_of_ble_eq_true rfl) (Nat.le_of_ble_eq_true rfl) ?_
          exact ih (v1 + 3) s h hR f he  q hd
        · rw [if_neg hc40] at hd
          refine am_steps ok_Me_readKind 1 (x' := (51, [some (.ref 2), some (.int v1)], [.ref 2], h, 0, 0)) rfl (Nat.le_of_ble_eq_true rfl) (Nat.le_of_ble_eq_true rfl) ?_
          refine hr_get ok_Me_readKind rfl hR (kd := 8) (hs_k hR (a := 2) rfl) rfl (Nat.le_of_ble_eq_true rfl) (Nat.le_of_ble_eq_true rfl) (v := .ref 1) (congrArg va_rf (hR.2.2.2.2.1 (800, 2, 1) (by decide))) (pc' := 54) rfl (Nat.le_of_ble_eq_true rfl) (Nat.le_of_ble_eq_true rfl) ?_
          refine am_steps ok_Me_readKind 1 (x' := (55, [some (.ref 2), some (.int v1)], [.int 2, .ref 1], h, 0, 0)) rfl (Nat.le_of_ble_eq_true rfl) (Nat.le_of_ble_eq_true rfl) ?_
          obtain ⟨j41, hx42, hd43⟩ := Option.bind_eq_some_iff.mp hd; clear hd; have hd := hd43; clear hd43
          refine hr_bald ok_Me_readKind rfl hR (kd := 22) (hs_k hR (a := 1) rfl) (by decide) (hs_ln hR rfl) hx42 (pc' := 56) rfl (Nat.le_of_ble_eq_true rfl) (Nat.le_of_ble_eq_true rfl) ?_
          refine ao_ldcS (d0 := hd_Me_readKind) rfl (x := 104) (t := 6) (by decide +kernel) rfl (pc' := 58) rfl ?_
          refine am_steps ok_Me_readKind 3 (x' := (61, [some (.ref 2), some (.int v1)], [.int (v1 + 2), .ref (am_M + (10 + 6)), .int (s.2.2.2.2.1 1 j41)], h, 0, 0)) rfl (Nat.le_of_ble_eq_true rfl) (Nat.le_of_ble_eq_true rfl) ?_
          obtain ⟨q44, hq45, hd46⟩ := Option.bind_eq_some_iff.mp hd; clear hd; have hd := hd46; clear hd46
          obtain ⟨s50, hs51, _⟩ := Option.bind_eq_some_iff.mp hq45
          refine ao_callS (d0 := hd_Me_readKind) rfl (x := 110) (a := 509) (j' := 239) hk_St_charAt rfl rfl hs51 (by decide +kernel) (by decide +kernel) (As := [.int (v1 + 2)]) (rest := [.int (s.2.2.2.2.1 1 j41)]) rfl rfl (Nat.le_of_ble_eq_true rfl) (c_St_charAt 6 (v1 + 2) h q44 hq45) (Nat.le_of_ble_eq_true rfl) (Nat.le_of_ble_eq_true rfl) (Nat.le_of_ble_eq_true rfl) (Nat.le_of_ble_eq_true rfl) (pc' := 64) rfl (fun r47 h52 z48 => ?_)
          obtain ⟨rfl, z49⟩ := z48; rw [z49]
          show am_S _ _ _ _ _ _ _ (64, [some (.ref 2), some (.int v1)], [.int q44, .int (s.2.2.2.2.1 1 j41)], h, 0, 0) _
          refine am_steps ok_Me_readKind 1 (x' := (if ¬ ((s.2.2.2.2.1 1 j41) : Int32) = q44 then 71 else 67, [some (.ref 2), some (.int v1)], [], h, 0, 0)) rfl (Nat.le_of_ble_eq_true rfl) (Nat.le_of_ble_eq_true rfl) ?_
          refine am_if (fun hc53 => ?_) (fun hc53 => ?_)
          · rw [if_pos hc53] at hd
            refine am_steps ok_Me_readKind 2 (x' := (7, [some (.ref 2), some (.int (v1 + 3))], [], h, 0, 0)) rfl (Nat.le_of_ble_eq_true rfl) (Nat.le_of_ble_eq_true rfl) ?_
            exact ih (v1 + 3) s h hR f he  q hd
          · rw [if_neg hc53] at hd
            refine am_steps ok_Me_readKind 2 (x' := (69, [some (.ref 2), some (.int v1)], [.int 3, .int v1], h, 0, 0)) rfl (Nat.le_of_ble_eq_true rfl) (Nat.le_of_ble_eq_true rfl) ?_
            refine ar_idiv ok_Me_readKind rfl (by decide +kernel) (w := (v1 / 3)) rfl (pc' := 70) rfl (Nat.le_of_ble_eq_true rfl) (Nat.le_of_ble_eq_true rfl) ?_
            cases hd; exact am_ret ok_Me_readKind rfl (Nat.le_of_ble_eq_true rfl) (Nat.le_of_ble_eq_true rfl) ⟨rfl, hR, f, he⟩
def h_Me_readKind  (S : hS) : Option (Int32 × hS) := hl_Me_readKind_7 100000 0 (hpI S 802 2 3)
set_option maxHeartbeats 4000000 in
set_option maxRecDepth 100000 in
theorem c_Me_readKind  (S : hS) (h0 : am_H) (hR : RH S h0)  (q : Int32 × hS) (hd : h_Me_readKind  S = some q) : am_Me am_Pr none 4 85 0 0 191 [.ref 2] h0 (hQr (.int q.1) q.2 S.1 h0) := by
  refine am_enter (d := hd_Me_readKind) rfl (by decide +kernel) (Nat.le_of_ble_eq_true rfl) ?_
  show am_S _ _ _ _ _ _ _ (0, [some (.ref 2), none], [], h0, 0, 0) _
  unfold h_Me_readKind at hd
  refine am_steps ok_Me_readKind 2 (x' := (2, [some (.ref 2), none], [.int 3, .ref 2], h0, 0, 0)) rfl (Nat.le_of_ble_eq_true rfl) (Nat.le_of_ble_eq_true rfl) ?_
  refine hr_put ok_Me_readKind rfl hR (kd := 8) (hs_k hR (a := 2) rfl) rfl (Nat.le_of_ble_eq_true rfl) (Nat.le_of_ble_eq_true rfl) rfl (S' := (hpI S 802 2 3)) rfl (hWT.up hR.2.2 rfl rfl rfl) (pc' := 5) rfl (Nat.le_of_ble_eq_true rfl) (Nat.le_of_ble_eq_true rfl) (fun h1 hR2 g3 => ?_)
  have f4 := hF.tr hF.rf g3
  refine am_steps ok_Me_readKind 2 (x' := (7, [some (.ref 2), some (.int 0)], [], h1, 0, 0)) rfl (Nat.le_of_ble_eq_true rfl) (Nat.le_of_ble_eq_true rfl) ?_
  exact Lc_Me_readKind_7 S.1 h0 100000 0 (hpI S 802 2 3) h1 hR2 f4 hE.rf  q hd
def hl_Me_readCode_5 : Nat → Int32 → Int64 → Int32 → hS → Option (Int64 × hS)
  | 0, _, _, _, _ => none
  | fu + 1, v1, v2, v4, s => if (v1 : Int32) ≤ v4 then (some (v2, s)) else (if ((s.2.1 802 2) : Int32) < ((s.2.1 801 2) - 2) then ((am_ix (s.2.1 802 2) 400).bind fun j3 => ((h_Me_valueOf (s.2.2.2.2.1 1 j3)).bind fun q6 => (hl_Me_readCode_5 fu v1 ((v2 * (Int64.ofNat 36)) + (Int32.toInt64 q6)) (v4 + 1) (hpI s 802 2 ((s.2.1 802 2) + 1))))) else (some (0, (hpI s 803 2 0))))
set_option maxHeartbeats 4000000 in
set_option maxRecDepth 100000 in
theorem Lc_Me_readCode_5 (sh0 : List (Nat × Nat)) (h0 : am_H) : ∀ (fu : Nat) (v1 : Int32) (v2 : Int64) (v4 : Int32) (s : hS) (h : am_H), RH s h → hF h0 h → hE sh0 s.1 → ∀ q : Int64 × hS, hl_Me_readCode_5 fu v1 v2 v4 s = some q → am_S am_Pr none 1 20 0 0 200 (5, [some (.ref 2), some (.int v1), some (.long v2), none, some (.int v4)], [], h, 0, 0) (hQr (.long q.1) q.2 sh0 h0) := by
  intro fu
  induction fu with
  | zero => intro v1 v2 v4 s h hR f he  q hd; cases hd
  | succ fu ih =>
    intro v1 v2 v4 s h hR f he  q hd
    unfold hl_Me_readCode_5 at hd
    refine am_steps ok_Me_readCode 3 (x' := (if (v1 : Int32) ≤ v4 then 67 else 11, [some (.ref 2), some (.int v1), some (.long v2), none, some (.int v4)], [], h, 0, 0)) rfl (Nat.le_of_ble_eq_true rfl) (Nat.le_of_ble_eq_true rfl) ?_
    refine am_if (fun hc1 => ?_) (fun hc1 => ?_)
    · rw [if_pos hc1] at hd
      refine am_steps ok_Me_readCode 1 (x' := (68, [some (.ref 2), some (.int v1), some (.long v2), none, some (.int v4)], [.long v2], h, 0, 0)) rfl (Nat.le_of_ble_eq_true rfl) (Nat.le_of_ble_eq_true rfl) ?_
      cases hd; exact am_ret ok_Me_readCode rfl (Nat.le_of_ble_eq_true rfl) (Nat.le_of_ble_eq_true rfl) ⟨rfl, hR, f, he⟩
    · rw [if_neg hc1] at hd
      refine am_steps ok_Me_readCode 1 (x' := (12, [some (.ref 2), some (.int v1), some (.long v2), none, some (.int v4)], [.ref 2], h, 0, 0)) rfl (Nat.le_of_ble_eq_true rfl) (Nat.le_of_ble_eq_true rfl) ?_
      refine hr_get ok_Me_readCode rfl hR (kd := 8) (hs_k hR (a := 2) rfl) rfl (Nat.le_of_ble_eq_true rfl) (Nat.le_of_ble_eq_true rfl) (v := .int (s.2.1 802 2)) rfl (pc' := 15) rfl (Nat.le_of_ble_eq_true rfl) (Nat.le_of_ble_eq_true rfl) ?_
      refine am_steps ok_Me_readCode 1 (x' := (16, [some (.ref 2), some (.int v1), some (.long v2), none, some (.int v4)], [.ref 2, .int (s.2.1 802 2)], h, 0, 0)) rfl (Nat.le_of_ble_eq_true rfl) (Nat.le_of_ble_eq_true rfl) ?_
      refine hr_get ok_Me_readCode rfl hR (kd := 8) (hs_k hR (a := 2) rfl) rfl (Nat.le_of_ble_eq_true rfl) (Nat.le_of_ble_eq_true rfl) (v := .int (s.2.1 801 2)) rfl (pc' := 19) rfl (Nat.le_of_ble_eq_true rfl) (Nat.le_of_ble_eq_true rfl) ?_
      refine am_steps ok_Me_readCode 3 (x' := (if ((s.2.1 802 2) : Int32) < ((s.2.1 801 2) - 2) then 31 else 24, [some (.ref 2), some (.int v1), some (.long v2), none, some (.int v4)], [], h, 0, 0)) rfl (Nat.le_of_ble_eq_true rfl) (Nat.le_of_ble_eq_true rfl) ?_
      refine am_if (fun hc2 => ?_) (fun hc2 => ?_)
      · rw [if_pos hc2] at hd
        refine am_steps ok_Me_readCode 4 (x' := (37, [some (.ref 2), some (.int v1), some (.long v2), none, some (.int v4)], [.ref 2, .long (v2 * (Int64.ofNat 36))], h, 0, 0)) rfl (Nat.le_of_ble_eq_true rfl) (Nat.le_of_ble_eq_true rfl) ?_
        refine hr_get ok_Me_readCode rfl hR (kd := 8) (hs_k hR (a := 2) rfl) rfl (Nat.le_of_ble_eq_true rfl) (Nat.le_of_ble_eq_true rfl) (v := .ref 1) (congrArg va_rf (hR.2.2.2.2.1 (800, 2, 1) (by decide))) (pc' := 40) rfl (Nat.le_of_ble_eq_true rfl) (Nat.le_of_ble_eq_true rfl) ?_
        refine am_steps ok_Me_readCode 1 (x' := (41, [some (.ref 2), some (.int v1), some (.long v2), none, some (.int v4)], [.ref 2, .ref 1, .long (v2 * (Int64.ofNat 36))], h, 0, 0)) rfl (Nat.le_of_ble_eq_true rfl) (Nat.le_of_ble_eq_true rfl) ?_
        refine hr_get ok_Me_readCode rfl hR (kd := 8) (hs_k hR (a := 2) rfl) rfl (Nat.le_of_ble_eq_true rfl) (Nat.le_of_ble_eq_true rfl) (v := .int (s.2.1 802 2)) rfl (pc' := 44) rfl (Nat.le_of_ble_eq_true rfl) (Nat.le_of_ble_eq_true rfl) ?_
        obtain ⟨j3, hx4, hd5⟩ := Option.bind_eq_some_iff.mp hd; clear hd; have hd := hd5; clear hd5
        refine hr_bald ok_Me_readCode rfl hR (kd := 22) (hs_k hR (a := 1) rfl) (by decide) (hs_ln hR rfl) hx4 (pc' := 45) rfl (Nat.le_of_ble_eq_true rfl) (Nat.le_of_ble_eq_true rfl) ?_
        obtain ⟨q6, hq7, hd8⟩ := Option.bind_eq_some_iff.mp hd; clear hd; have hd := hd8; clear hd8
        refine am_call ok_Me_readCode hk_Me_valueOf rfl (args' := [.int (s.2.2.2.2.1 1 j3)]) (rest := [.long (v2 * (Int64.ofNat 36))]) rfl (c_Me_valueOf (s.2.2.2.2.1 1 j3) h q6 hq7) (Nat.le_of_ble_eq_true rfl) (Nat.le_of_ble_eq_true rfl) (Nat.le_of_ble_eq_true rfl) (Nat.le_of_ble_eq_true rfl) (fun r9 h11 z10 => ?_)
        obtain ⟨rfl, z13⟩ := z10; rw [z13]
        show am_S _ _ _ _ _ _ _ (48, [some (.ref 2), some (.int v1), some (.long v2), none, some (.int v4)], [.int q6, .long (v2 * (Int64.ofNat 36))], h, 0, 0) _
        refine am_steps ok_Me_readCode 5 (x' := (53, [some (.ref 2), some (.int v1), some (.long ((v2 * (Int64.ofNat 36)) + (Int32.toInt64 q6))), none, some (.int v4)], [.ref 2, .ref 2], h, 0, 0)) rfl (Nat.le_of_ble_eq_true rfl) (Nat.le_of_ble_eq_true rfl) ?_
        refine hr_get ok_Me_readCode rfl hR (kd := 8) (hs_k hR (a := 2) rfl) rfl (Nat.le_of_ble_eq_true rfl) (Nat.le_of_ble_eq_true rfl) (v := .int (s.2.1 802 2)) rfl (pc' := 56) rfl (Nat.le_of_ble_eq_true rfl) (Nat.le_of_ble_eq_true rfl) ?_
        refine am_steps ok_Me_readCode 2 (x' := (58, [some (.ref 2), some (.int v1), some (.long ((v2 * (Int64.ofNat 36)) + (Int32.toInt64 q6))), none, some (.int v4)], [.int ((s.2.1 802 2) + 1), .ref 2], h, 0, 0)) rfl (Nat.le_of_ble_eq_true rfl) (Nat.le_of_ble_eq_true rfl) ?_
        refine hr_put ok_Me_readCode rfl hR (kd := 8) (hs_k hR (a := 2) rfl) rfl (Nat.le_of_ble_eq_true rfl) (Nat.le_of_ble_eq_true rfl) rfl (S' := (hpI s 802 2 ((s.2.1 802 2) + 1))) rfl (hWT.up hR.2.2 rfl rfl rfl) (pc' := 61) rfl (Nat.le_of_ble_eq_true rfl) (Nat.le_of_ble_eq_true rfl) (fun h14 hR15 g16 => ?_)
        have f17 := hF.tr f g16
        refine am_steps ok_Me_readCode 2 (x' := (5, [some (.ref 2), some (.int v1), some (.long ((v2 * (Int64.ofNat 36)) + (Int32.toInt64 q6))), none, some (.int (v4 + 1))], [], h14, 0, 0)) rfl (Nat.le_of_ble_eq_true rfl) (Nat.le_of_ble_eq_true rfl) ?_
        exact ih v1 ((v2 * (Int64.ofNat 36)) + (Int32.toInt64 q6)) (v4 + 1) (hpI s 802 2 ((s.2.1 802 2) + 1)) h14 hR15 f17 he  q hd
      · rw [if_neg hc2] at hd
        refine am_steps ok_Me_readCode 2 (x' := (26, [some (.ref 2), some (.int v1), some (.long v2), none, some (.int v4)], [.int 0, .ref 2], h, 0, 0)) rfl (Nat.le_of_ble_eq_true rfl) (Nat.le_of_ble_eq_true rfl) ?_
        refine hr_put ok_Me_readCode rfl hR (kd := 8) (hs_k hR (a := 2) rfl) rfl (Nat.le_of_ble_eq_true rfl) (Nat.le_of_ble_eq_true rfl) rfl (S' := (hpI s 803 2 0)) rfl (hWT.up hR.2.2 rfl rfl rfl) (pc' := 29) rfl (Nat.le_of_ble_eq_true rfl) (Nat.le_of_ble_eq_true rfl) (fun h18 hR19 g20 => ?_)
        have f21 := hF.tr f g20
        refine am_steps ok_Me_readCode 1 (x' := (30, [some (.ref 2), some (.int v1), some (.long v2), none, some (.int v4)], [.long 0], h18, 0, 0)) rfl (Nat.le_of_ble_eq_true rfl) (Nat.le_of_ble_eq_true rfl) ?_
        cases hd; exact am_ret ok_Me_readCode rfl (Nat.le_of_ble_eq_true rfl) (Nat.le_of_ble_eq_true rfl) ⟨rfl, hR19, f21, he⟩
def h_Me_readCode (a : Int32) (S : hS) : Option (Int64 × hS) := hl_Me_readCode_5 100000 a 0 0 S
set_option maxHeartbeats 4000000 in
set_option maxRecDepth 100000 in
theorem c_Me_readCode (a : Int32) (S : hS) (h0 : am_H) (hR : RH S h0)  (q : Int64 × hS) (hd : h_Me_readCode a S = some q) : am_Me am_Pr none 1 20 0 0 200 [.ref 2, .int a] h0 (hQr (.long q.1) q.2 S.1 h0) := by
  refine am_enter (d := hd_Me_readCode) rfl (by decide +kernel) (Nat.le_of_ble_eq_true rfl) ?_
  show am_S _ _ _ _ _ _ _ (0, [some (.ref 2), some (.int a), none, none, none], [], h0, 0, 0) _
  unfold h_Me_readCode at hd
  refine am_steps ok_Me_readCode 4 (x' := (5, [some (.ref 2), some (.int a), some (.long 0), none, some (.int 0)], [], h0, 0, 0)) rfl (Nat.le_of_ble_eq_true rfl) (Nat.le_of_ble_eq_true rfl) ?_
  exact Lc_Me_readCode_5 S.1 h0 100000 a 0 0 S h0 hR hF.rf hE.rf  q hd
def h_Me_fieldsOf (a : Int32) : Option (Nat) := if a = 0 then (some 7) else (if a = 1 then (some 8) else (if a = 2 then (some 9) else (if a = 3 then (some 10) else (if a = 4 then (some 10) else (if a = 5 then (some 11) else (if a = 6 then (some 12) else (if a = 7 then (some 13) else (if a = 8 then (some 14) else (if a = 9 then (some 15) else (if a = 10 then (some 16) else (if a = 11 then (some 17) else (if a = 12 then (some 17) else (some 18)))))))))))))
set_option maxHeartbeats 4000000 in
set_option maxRecDepth 100000 in
theorem c_Me_fieldsOf (a : Int32) (h0 : am_H) (q : Nat) (hd : h_Me_fieldsOf a = some q) : am_Me am_Pr none 0 0 0 0 192 [.int a] h0 (am_is (some (.ref (am_M + (10 + q)))) h0) := by
  refine am_enter (d := hd_Me_fieldsOf) rfl (by decide +kernel) (Nat.le_of_ble_eq_true rfl) ?_
  show am_S _ _ _ _ _ _ _ (0, [some (.int a)], [], h0, 0, 0) _
  unfold h_Me_fieldsOf at hd
  refine am_steps ok_Me_fieldsOf 1 (x' := (1, [some (.int a)], [.int a], h0, 0, 0)) rfl (Nat.le_of_ble_eq_true rfl) (Nat.le_of_ble_eq_true rfl) ?_
  by_cases hc1 : a = 0
  · rw [if_pos hc1] at hd
    have KT2 : am_S am_Pr none 0 0 0 0 192 (68, [some (.int a)], [], h0, 0, 0) (am_is (some (.ref (am_M + (10 + q)))) h0) := by
      refine ao_ldcS (d0 := hd_Me_fieldsOf) rfl (x := 114) (t := 7) (by decide +kernel) rfl (pc' := 70) rfl ?_
      cases hd; exact am_ret ok_Me_fieldsOf rfl (Nat.le_of_ble_eq_true rfl) (Nat.le_of_ble_eq_true rfl) ⟨rfl, rfl⟩
    exact ar_tswk ok_Me_fieldsOf rfl hc1 (by decide +kernel) rfl rfl (Nat.le_of_ble_eq_true rfl) (Nat.le_of_ble_eq_true rfl) KT2
  rw [if_neg hc1] at hd
  by_cases hc4 : a = 1
  · rw [if_pos hc4] at hd
    have KT5 : am_S am_Pr none 0 0 0 0 192 (71, [some (.int a)], [], h0, 0, 0) (am_is (some (.ref (am_M + (10 + q)))) h0) := by
      refine ao_ldcS (d0 := hd_Me_fieldsOf) rfl (x := 116) (t := 8) (by decide +kernel) rfl (pc' := 73) rfl ?_
      cases hd; exact am_ret ok_Me_fieldsOf rfl (Nat.le_of_ble_eq_true rfl) (Nat.le_of_ble_eq_true rfl) ⟨rfl, rfl⟩
    exact ar_tswk ok_Me_fieldsOf rfl hc4 (by decide +kernel) rfl rfl (Nat.le_of_ble_eq_true rfl) (Nat.le_of_ble_eq_true rfl) KT5
  rw [if_neg hc4] at hd
  by_cases hc7 : a = 2
  · rw [if_pos hc7] at hd
    have KT8 : am_S am_Pr none 0 0 0 0 192 (74, [some (.int a)], [], h0, 0, 0) (am_is (some (.ref (am_M + (10 + q)))) h0) := by
      refine ao_ldcS (d0 := hd_Me_fieldsOf) rfl (x := 118) (t := 9) (by decide +kernel) rfl (pc' := 76) rfl ?_
      cases hd; exact am_ret ok_Me_fieldsOf rfl (Nat.le_of_ble_eq_true rfl) (Nat.le_of_ble_eq_true rfl) ⟨rfl, rfl⟩
    exact ar_tswk ok_Me_fieldsOf rfl hc7 (by decide +kernel) rfl rfl (Nat.le_of_ble_eq_true rfl) (Nat.le_of_ble_eq_true rfl) KT8
  rw [if_neg hc7] at hd
  by_cases hc10 : a = 3
  · rw [if_pos hc10] at hd
    have KT11 : am_S am_Pr none 0 0 0 0 192 (77, [some (.int a)], [], h0, 0, 0) (am_is (some (.ref (am_M + (10 + q)))) h0) := by
      refine ao_ldcS (d0 := hd_Me_fieldsOf) rfl (x := 120) (t := 10) (by decide +kernel) rfl (pc' := 79) rfl ?_
      cases hd; exact am_ret ok_Me_fieldsOf rfl (Nat.le_of_ble_eq_true rfl) (Nat.le_of_ble_eq_true rfl) ⟨rfl, rfl⟩
    exact ar_tswk ok_Me_fieldsOf rfl hc10 (by decide +kernel) rfl rfl (Nat.le_of_ble_eq_true rfl) (Nat.le_of_ble_eq_true rfl) KT11
  rw [if_neg hc10] at hd
  by_cases hc13 : a = 4
  · rw [if_pos hc13] at hd
    have KT14 : am_S am_Pr none 0 0 0 0 192 (80, [some (.int a)], [], h0, 0, 0) (am_is (some (.ref (am_M + (10 + q)))) h0) := by
      refine ao_ldcS (d0 := hd_Me_fieldsOf) rfl (x := 120) (t := 10) (by decide +kernel) rfl (pc' := 82) rfl ?_
      cases hd; exact am_ret ok_Me_fieldsOf rfl (Nat.le_of_ble_eq_true rfl) (Nat.le_of_ble_eq_true rfl) ⟨rfl, rfl⟩
    exact ar_tswk ok_Me_fieldsOf rfl hc13 (by decide +kernel) rfl rfl (Nat.le_of_ble_eq_true rfl) (Nat.le_of_ble_eq_true rfl) KT14
  rw [if_neg hc13] at hd
  by_cases hc16 : a = 5
  · rw [if_pos hc16] at hd
    have KT17 : am_S am_Pr none 0 0 0 0 192 (83, [some (.int a)], [], h0, 0, 0) (am_is (some (.ref (am_M + (10 + q)))) h0) := by
      refine ao_ldcS (d0 := hd_Me_fieldsOf) rfl (x := 122) (t := 11) (by decide +kernel) rfl (pc' := 85) rfl ?_
      cases hd; exact am_ret ok_Me_fieldsOf rfl (Nat.le_of_ble_eq_true rfl) (Nat.le_of_ble_eq_true rfl) ⟨rfl, rfl⟩
    exact ar_tswk ok_Me_fieldsOf rfl hc16 (by decide +kernel) rfl rfl (Nat.le_of_ble_eq_true rfl) (Nat.le_of_ble_eq_true rfl) KT17
  rw [if_neg hc16] at hd
  by_cases hc19 : a = 6
  · rw [if_pos hc19] at hd
    have KT20 : am_S am_Pr none 0 0 0 0 192 (86, [some (.int a)], [], h0, 0, 0) (am_is (some (.ref (am_M + (10 + q)))) h0) := by
      refine ao_ldcS (d0 := hd_Me_fieldsOf) rfl (x := 124) (t := 12) (by decide +kernel) rfl (pc' := 88) rfl ?_
      cases hd; exact am_ret ok_Me_fieldsOf rfl (Nat.le_of_ble_eq_true rfl) (Nat.le_of_ble_eq_true rfl) ⟨rfl, rfl⟩
    exact ar_tswk ok_Me_fieldsOf rfl hc19 (by decide +kernel) rfl rfl (Nat.le_of_ble_eq_true rfl) (Nat.le_of_ble_eq_true rfl) KT20
  rw [if_neg hc19] at hd
  by_cases hc22 : a = 7
  · rw [if_pos hc22] at hd
    have KT23 : am_S am_Pr none 0 0 0 0 192 (89, [some (.int a)], [], h0, 0, 0) (am_is (some (.ref (am_M + (10 + q)))) h0) := by
      refine ao_ldcS (d0 := hd_Me_fieldsOf) rfl (x := 126) (t := 13) (by decide +kernel) rfl (pc' := 91) rfl ?_
      cases hd; exact am_ret ok_Me_fieldsOf rfl (Nat.le_of_ble_eq_true rfl) (Nat.le_of_ble_eq_true rfl) ⟨rfl, rfl⟩
    exact ar_tswk ok_Me_fieldsOf rfl hc22 (by decide +kernel) rfl rfl (Nat.le_of_ble_eq_true rfl) (Nat.le_of_ble_eq_true rfl) KT23
  rw [if_neg hc22] at hd
  by_cases hc25 : a = 8
  · rw [if_pos hc25] at hd
    have KT26 : am_S am_Pr none 0 0 0 0 192 (92, [some (.int a)], [], h0, 0, 0) (am_is (some (.ref (am_M + (10 + q)))) h0) := by
      refine ao_ldcS (d0 := hd_Me_fieldsOf) rfl (x := 128) (t := 14) (by decide +kernel) rfl (pc' := 94) rfl ?_
      cases hd; exact am_ret ok_Me_fieldsOf rfl (Nat.le_of_ble_eq_true rfl) (Nat.le_of_ble_eq_true rfl) ⟨rfl, rfl⟩
    exact ar_tswk ok_Me_fieldsOf rfl hc25 (by decide +kernel) rfl rfl (Nat.le_of_ble_eq_true rfl) (Nat.le_of_ble_eq_true rfl) KT26
  rw [if_neg hc25] at hd
  by_cases hc28 : a = 9
  · rw [if_pos hc28] at hd
    have KT29 : am_S am_Pr none 0 0 0 0 192 (95, [some (.int a)], [], h0, 0, 0) (am_is (some (.ref (am_M + (10 + q)))) h0) := by
      refine ao_ldcS (d0 := hd_Me_fieldsOf) rfl (x := 130) (t := 15) (by decide +kernel) rfl (pc' := 97) rfl ?_
      cases hd; exact am_ret ok_Me_fieldsOf rfl (Nat.le_of_ble_eq_true rfl) (Nat.le_of_ble_eq_true rfl) ⟨rfl, rfl⟩
    exact ar_tswk ok_Me_fieldsOf rfl hc28 (by decide +kernel) rfl rfl (Nat.le_of_ble_eq_true rfl) (Nat.le_of_ble_eq_true rfl) KT29
  rw [if_neg hc28] at hd
  by_cases hc31 : a = 10
  · rw [if_pos hc31] at hd
    have KT32 : am_S am_Pr none 0 0 0 0 192 (98, [some (.int a)], [], h0, 0, 0) (am_is (some (.ref (am_M + (10 + q)))) h0) := by
      refine ao_ldcS (d0 := hd_Me_fieldsOf) rfl (x := 132) (t := 16) (by decide +kernel) rfl (pc' := 100) rfl ?_
      cases hd; exact am_ret ok_Me_fieldsOf rfl (Nat.le_of_ble_eq_true rfl) (Nat.le_of_ble_eq_true rfl) ⟨rfl, rfl⟩
    exact ar_tswk ok_Me_fieldsOf rfl hc31 (by decide +kernel) rfl rfl (Nat.le_of_ble_eq_true rfl) (Nat.le_of_ble_eq_true rfl) KT32
  rw [if_neg hc31] at hd
  by_cases hc34 : a = 11
  · rw [if_pos hc34] at hd
    have KT35 : am_S am_Pr none 0 0 0 0 192 (101, [some (.int a)], [], h0, 0, 0) (am_is (some (.ref (am_M + (10 + q)))) h0) := by
      refine ao_ldcS (d0 := hd_Me_fieldsOf) rfl (x := 134) (t := 17) (by decide +kernel) rfl (pc' := 103) rfl ?_
      cases hd; exact am_ret ok_Me_fieldsOf rfl (Nat.le_of_ble_eq_true rfl) (Nat.le_of_ble_eq_true rfl) ⟨rfl, rfl⟩
    exact ar_tswk ok_Me_fieldsOf rfl hc34 (by decide +kernel) rfl rfl (Nat.le_of_ble_eq_true rfl) (Nat.le_of_ble_eq_true rfl) KT35
  rw [if_neg hc34] at hd
  by_cases hc37 : a = 12
  · rw [if_pos hc37] at hd
    have KT38 : am_S am_Pr none 0 0 0 0 192 (104, [some (.int a)], [], h0, 0, 0) (am_is (some (.ref (am_M + (10 + q)))) h0) := by
      refine ao_ldcS (d0 := hd_Me_fieldsOf) rfl (x := 134) (t := 17) (by decide +kernel) rfl (pc' := 106) rfl ?_
      cases hd; exact am_ret ok_Me_fieldsOf rfl (Nat.le_of_ble_eq_true rfl) (Nat.le_of_ble_eq_true rfl) ⟨rfl, rfl⟩
    exact ar_tswk ok_Me_fieldsOf rfl hc37 (by decide +kernel) rfl rfl (Nat.le_of_ble_eq_true rfl) (Nat.le_of_ble_eq_true rfl) KT38
  rw [if_neg hc37] at hd
  have KT40 : am_S am_Pr none 0 0 0 0 192 (107, [some (.int a)], [], h0, 0, 0) (am_is (some (.ref (am_M + (10 + q)))) h0) := by
    refine ao_ldcS (d0 := hd_Me_fieldsOf) rfl (x := 136) (t := 18) (by decide +kernel) rfl (pc' := 109) rfl ?_
    cases hd; exact am_ret ok_Me_fieldsOf rfl (Nat.le_of_ble_eq_true rfl) (Nat.le_of_ble_eq_true rfl) ⟨rfl, rfl⟩
  have ho45 : a.toInt < 0 ∨ 12 < a.toInt := tsw_out (fun c42 h43 h44 e41 => by
    have c42x : c42 = 0 ∨ c42 = 1 ∨ c42 = 2 ∨ c42 = 3 ∨ c42 = 4 ∨ c42 = 5 ∨ c42 = 6 ∨ c42 = 7 ∨ c42 = 8 ∨ c42 = 9 ∨ c42 = 10 ∨ c42 = 11 ∨ c42 = 12 := by omega
    rcases c42x with rfl | rfl | rfl | rfl | rfl | rfl | rfl | rfl | rfl | rfl | rfl | rfl | rfl
    · exact hc1 e41
    · exact hc4 e41
    · exact hc7 e41
    · exact hc10 e41
    · exact hc13 e41
    · exact hc16 e41
    · exact hc19 e41
    · exact hc22 e41
    · exact hc25 e41
    · exact hc28 e41
    · exact hc31 e41
    · exact hc34 e41
    · exact hc37 e41)
  exact ar_tsw ok_Me_fieldsOf rfl ho45 rfl (Nat.le_of_ble_eq_true rfl) (Nat.le_of_ble_eq_true rfl) KT40
def h_Me_readSort  (S : hS) : Option (hS) := (h_Me_readCode 1 S).bind fun q1 => ((h_Me_valueOf 83).bind fun q12 => ((if ¬ ((lg_cmp q1.1 (Int32.toInt64 q12)) : Int32) = 0 then (some 0) else (some 1)).bind fun (u20 : Int32) => (if u20 = 0 ∨ u20 = 1 then (if ¬ (u20 : Int32) = 0 then (some (hpI q1.2 815 2 u20)) else ((h_Me_valueOf 67).bind fun q30 => (if ((lg_cmp q1.1 (Int32.toInt64 q30)) : Int32) = 0 then (some (hpI q1.2 815 2 u20)) else (some (hpI (hpI q1.2 815 2 u20) 803 2 0))))) else none)))
set_option maxHeartbeats 4000000 in
set_option maxRecDepth 100000 in
theorem c_Me_readSort  (S : hS) (h0 : am_H) (hR : RH S h0)  (q : hS) (hd : h_Me_readSort  S = some q) : am_Me am_Pr none 2 44 0 0 194 [.ref 2] h0 (hQv q S.1 h0) := by
  refine am_enter (d := hd_Me_readSort) rfl (by decide +kernel) (Nat.le_of_ble_eq_true rfl) ?_
  show am_S _ _ _ _ _ _ _ (0, [some (.ref 2), none, none], [], h0, 0, 0) _
  unfold h_Me_readSort at hd
  refine am_steps ok_Me_readSort 2 (x' := (2, [some (.ref 2), none, none], [.int 1, .ref 2], h0, 0, 0)) rfl (Nat.le_of_ble_eq_true rfl) (Nat.le_of_ble_eq_true rfl) ?_
  obtain ⟨q1, hq2, hd3⟩ := Option.bind_eq_some_iff.mp hd; clear hd; have hd := hd3; clear hd3
  refine ar_cv ok_Me_readSort hk_Me_readCode rfl rfl (As := [.int 1]) (ad := 2) (rest := []) rfl rfl (hR.ob (hs_k hR (a := 2) rfl) (Nat.le_of_ble_eq_true rfl)) (Nat.le_of_ble_eq_true rfl) (c_Me_readCode 1 S h0 hR  q1 hq2) (Nat.le_of_ble_eq_true rfl) (Nat.le_of_ble_eq_true rfl) (Nat.le_of_ble_eq_true rfl) (Nat.le_of_ble_eq_true rfl) (pc' := 5) rfl (fun r4 h6 z5 => ?_)
  obtain ⟨rfl, hR8, g9, e10⟩ := z5
  have f11 := hF.tr hF.rf g9
  show am_S _ _ _ _ _ _ _ (5, [some (.ref 2), none, none], [.long q1.1], h6, 0, 0) _
  refine am_steps ok_Me_readSort 4 (x' := (10, [some (.ref 2), some (.long q1.1), none], [.int 83, .long q1.1, .ref 2], h6, 0, 0)) rfl (Nat.le_of_ble_eq_true rfl) (Nat.le_of_ble_eq_true rfl) ?_
  obtain ⟨q12, hq13, hd14⟩ := Option.bind_eq_some_iff.mp hd; clear hd; have hd := hd14; clear hd14
  refine am_call ok_Me_readSort hk_Me_valueOf rfl (args' := [.int 83]) (rest := [.long q1.1, .ref 2]) rfl (c_Me_valueOf 83 h6 q12 hq13) (Nat.le_of_ble_eq_true rfl) (Nat.le_of_ble_eq_true rfl) (Nat.le_of_ble_eq_true rfl) (Nat.le_of_ble_eq_true rfl) (fun r15 h17 z16 => ?_)
  obtain ⟨rfl, z19⟩ := z16; rw [z19]
  show am_S _ _ _ _ _ _ _ (13, [some (.ref 2), some (.long q1.1), none], [.int q12, .long q1.1, .ref 2], h6, 0, 0) _
  refine am_steps ok_Me_readSort 3 (x' := (if ¬ ((lg_cmp q1.1 (Int32.toInt64 q12)) : Int32) = 0 then 22 else 18, [some (.ref 2), some (.long q1.1), none], [.ref 2], h6, 0, 0)) rfl (Nat.le_of_ble_eq_true rfl) (Nat.le_of_ble_eq_true rfl) ?_
  obtain ⟨u20, hA22, hB23⟩ := Option.bind_eq_some_iff.mp hd; clear hd
  have K21 : am_S am_Pr none 2 44 0 0 194 (23, [some (.ref 2), some (.long q1.1), none], [.int u20, .ref 2], h6, 0, 0) (hQv q S.1 h0) := by
    have hd := hB23
    split at hd
    · rename_i hz24
      refine hr_put ok_Me_readSort rfl hR8 (kd := 8) (hs_k hR8 (a := 2) rfl) rfl (Nat.le_of_ble_eq_true rfl) (Nat.le_of_ble_eq_true rfl) (hs_pkz hz24) (S' := (hpI q1.2 815 2 u20)) rfl (hWT.up hR8.2.2 rfl rfl rfl) (pc' := 26) rfl (Nat.le_of_ble_eq_true rfl) (Nat.le_of_ble_eq_true rfl) (fun h25 hR26 g27 => ?_)
      have f28 := hF.tr f11 g27
      refine am_steps ok_Me_readSort 1 (x' := (27, [some (.ref 2), some (.long q1.1), none], [.ref 2], h25, 0, 0)) rfl (Nat.le_of_ble_eq_true rfl) (Nat.le_of_ble_eq_true rfl) ?_
      refine hr_get ok_Me_readSort rfl hR26 (kd := 8) (hs_k hR26 (a := 2) rfl) rfl (Nat.le_of_ble_eq_true rfl) (Nat.le_of_ble_eq_true rfl) (v := .int u20) rfl (pc' := 30) rfl (Nat.le_of_ble_eq_true rfl) (Nat.le_of_ble_eq_true rfl) ?_
      refine am_steps ok_Me_readSort 1 (x' := (if ¬ (u20 : Int32) = 0 then 49 else 33, [some (.ref 2), some (.long q1.1), none], [], h25, 0, 0)) rfl (Nat.le_of_ble_eq_true rfl) (Nat.le_of_ble_eq_true rfl) ?_
      refine am_if (fun hc29 => ?_) (fun hc29 => ?_)
      · rw [if_pos hc29] at hd
        cases hd; exact am_ret ok_Me_readSort rfl (Nat.le_of_ble_eq_true rfl) (Nat.le_of_ble_eq_true rfl) ⟨rfl, hR26, f28, (hE.rf.tr e10)⟩
      · rw [if_neg hc29] at hd
        refine am_steps ok_Me_readSort 2 (x' := (36, [some (.ref 2), some (.long q1.1), none], [.int 67, .long q1.1], h25, 0, 0)) rfl (Nat.le_of_ble_eq_true rfl) (Nat.le_of_ble_eq_true rfl) ?_
        obtain ⟨q30, hq31, hd32⟩ := Option.bind_eq_some_iff.mp hd; clear hd; have hd := hd32; clear hd32
        refine am_call ok_Me_readSort hk_Me_valueOf rfl (args' := [.int 67]) (rest := [.long q1.1]) rfl (c_Me_valueOf 67 h25 q30 hq31) (Nat.le_of_ble_eq_true rfl) (Nat.le_of_ble_eq_true rfl) (Nat.le_of_ble_eq_true rfl) (Nat.le_of_ble_eq_true rfl) (fun r33 h35 z34 => ?_)
        obtain ⟨rfl, z37⟩ := z34; rw [z37]
        show am_S _ _ _ _ _ _ _ (39, [some (.ref 2), some (.long q1.1), none], [.int q30, .long q1.1], h25, 0, 0) _
        refine am_steps ok_Me_readSort 3 (x' := (if ((lg_cmp q1.1 (Int32.toInt64 q30)) : Int32) = 0 then 49 else 44, [some (.ref 2), some (.long q1.1), none], [], h25, 0, 0)) rfl (Nat.le_of_ble_eq_true rfl) (Nat.le_of_ble_eq_true rfl) ?_
        refine am_if (fun hc38 => ?_) (fun hc38 => ?_)
        · rw [if_pos hc38] at hd
          cases hd; exact am_ret ok_Me_readSort rfl (Nat.le_of_ble_eq_true rfl) (Nat.le_of_ble_eq_true rfl) ⟨rfl, hR26, f28, (hE.rf.tr e10)⟩
        · rw [if_neg hc38] at hd
          refine am_steps ok_Me_readSort 2 (x' := (46, [some (.ref 2), some (.long q1.1), none], [.int 0, .ref 2], h25, 0, 0)) rfl (Nat.le_of_ble_eq_true rfl) (Nat.le_of_ble_eq_true rfl) ?_
          refine hr_put ok_Me_readSort rfl hR26 (kd := 8) (hs_k hR26 (a := 2) rfl) rfl (Nat.le_of_ble_eq_true rfl) (Nat.le_of_ble_eq_true rfl) rfl (S' := (hpI (hpI q1.2 815 2 u20) 803 2 0)) rfl (hWT.up hR26.2.2 rfl rfl rfl) (pc' := 49) rfl (Nat.le_of_ble_eq_true rfl) (Nat.le_of_ble_eq_true rfl) (fun h39 hR40 g41 => ?_)
          have f42 := hF.tr f28 g41
          cases hd; exact am_ret ok_Me_readSort rfl (Nat.le_of_ble_eq_true rfl) (Nat.le_of_ble_eq_true rfl) ⟨rfl, hR40, f42, (hE.rf.tr e10)⟩
    · cases hd
  clear hB23; have hd := hA22; clear hA22
  refine am_if (fun hc43 => ?_) (fun hc43 => ?_)
  · rw [if_pos hc43] at hd
    refine am_steps ok_Me_readSort 1 (x' := (23, [some (.ref 2), some (.long q1.1), none], [.int 0, .ref 2], h6, 0, 0)) rfl (Nat.le_of_ble_eq_true rfl) (Nat.le_of_ble_eq_true rfl) ?_
    cases hd; exact K21 
  · rw [if_neg hc43] at hd
    refine am_steps ok_Me_readSort 2 (x' := (23, [some (.ref 2), some (.long q1.1), none], [.int 1, .ref 2], h6, 0, 0)) rfl (Nat.le_of_ble_eq_true rfl) (Nat.le_of_ble_eq_true rfl) ?_
    cases hd; exact K21 
def h_Me_readKnownCode (a : Int32) (S : hS) : Option (hS) := if ((S.2.1 810 2) : Int32) < 12 then ((if (a : Int32) = 0 then (some 4) else (some 3)).bind fun (u2 : Int32) => ((h_Me_readCode u2 S).bind fun q6 => ((am_ix (S.2.1 810 2) 12).bind fun j17 => ((am_ix (q6.2.2.1 810 2) 12).bind fun j24 => (some (hpI (hpA (hpA q6.2 3 j17 (Int64.toInt32 q6.1)) 4 j24 (am_bn 3 a)) 810 2 ((q6.2.2.1 810 2) + 1))))))) else (some (hpI S 803 2 0))
set_option maxHeartbeats 4000000 in
set_option maxRecDepth 100000 in
theorem c_Me_readKnownCode (a : Int32) (S : hS) (h0 : am_H) (hR : RH S h0)  (q : hS) (hd : h_Me_readKnownCode a S = some q) : am_Me am_Pr none 2 44 0 0 195 [.ref 2, .int a] h0 (hQv q S.1 h0) := by
  refine am_enter (d := hd_Me_readKnownCode) rfl (by decide +kernel) (Nat.le_of_ble_eq_true rfl) ?_
  show am_S _ _ _ _ _ _ _ (0, [some (.ref 2), some (.int a)], [], h0, 0, 0) _
  unfold h_Me_readKnownCode at hd
  refine am_steps ok_Me_readKnownCode 1 (x' := (1, [some (.ref 2), some (.int a)], [.ref 2], h0, 0, 0)) rfl (Nat.le_of_ble_eq_true rfl) (Nat.le_of_ble_eq_true rfl) ?_
  refine hr_get ok_Me_readKnownCode rfl hR (kd := 8) (hs_k hR (a := 2) rfl) rfl (Nat.le_of_ble_eq_true rfl) (Nat.le_of_ble_eq_true rfl) (v := .int (S.2.1 810 2)) rfl (pc' := 4) rfl (Nat.le_of_ble_eq_true rfl) (Nat.le_of_ble_eq_true rfl) ?_
  refine am_steps ok_Me_readKnownCode 1 (x' := (5, [some (.ref 2), some (.int a)], [.ref 2, .int (S.2.1 810 2)], h0, 0, 0)) rfl (Nat.le_of_ble_eq_true rfl) (Nat.le_of_ble_eq_true rfl) ?_
  refine hr_get ok_Me_readKnownCode rfl hR (kd := 8) (hs_k hR (a := 2) rfl) rfl (Nat.le_of_ble_eq_true rfl) (Nat.le_of_ble_eq_true rfl) (v := .ref 3) (congrArg va_rf (hR.2.2.2.2.1 (807, 2, 3) (by decide))) (pc' := 8) rfl (Nat.le_of_ble_eq_true rfl) (Nat.le_of_ble_eq_true rfl) ?_
  refine hr_alen ok_Me_readKnownCode rfl hR (kd := 20) (hs_k hR (a := 3) rfl) (by decide) (w := 12) (by rw [(hs_ln hR rfl)]; decide +kernel) (pc' := 9) rfl (Nat.le_of_ble_eq_true rfl) (Nat.le_of_ble_eq_true rfl) ?_
  refine am_steps ok_Me_readKnownCode 1 (x' := (if ((S.2.1 810 2) : Int32) < 12 then 18 else 12, [some (.ref 2), some (.int a)], [], h0, 0, 0)) rfl (Nat.le_of_ble_eq_true rfl) (Nat.le_of_ble_eq_true rfl) ?_
  refine am_if (fun hc1 => ?_) (fun hc1 => ?_)
  · rw [if_pos hc1] at hd
    refine am_steps ok_Me_readKnownCode 1 (x' := (19, [some (.ref 2), some (.int a)], [.ref 2], h0, 0, 0)) rfl (Nat.le_of_ble_eq_true rfl) (Nat.le_of_ble_eq_true rfl) ?_
    refine hr_get ok_Me_readKnownCode rfl hR (kd := 8) (hs_k hR (a := 2) rfl) rfl (Nat.le_of_ble_eq_true rfl) (Nat.le_of_ble_eq_true rfl) (v := .ref 3) (congrArg va_rf (hR.2.2.2.2.1 (807, 2, 3) (by decide))) (pc' := 22) rfl (Nat.le_of_ble_eq_true rfl) (Nat.le_of_ble_eq_true rfl) ?_
    refine am_steps ok_Me_readKnownCode 1 (x' := (23, [some (.ref 2), some (.int a)], [.ref 2, .ref 3], h0, 0, 0)) rfl (Nat.le_of_ble_eq_true rfl) (Nat.le_of_ble_eq_true rfl) ?_
    refine hr_get ok_Me_readKnownCode rfl hR (kd := 8) (hs_k hR (a := 2) rfl) rfl (Nat.le_of_ble_eq_true rfl) (Nat.le_of_ble_eq_true rfl) (v := .int (S.2.1 810 2)) rfl (pc' := 26) rfl (Nat.le_of_ble_eq_true rfl) (Nat.le_of_ble_eq_true rfl) ?_
    refine am_steps ok_Me_readKnownCode 3 (x' := (if (a : Int32) = 0 then 35 else 31, [some (.ref 2), some (.int a)], [.ref 2, .int (S.2.1 810 2), .ref 3], h0, 0, 0)) rfl (Nat.le_of_ble_eq_true rfl) (Nat.le_of_ble_eq_true rfl) ?_
    obtain ⟨u2, hA4, hB5⟩ := Option.bind_eq_some_iff.mp hd; clear hd
    have K3 : am_S am_Pr none 2 44 0 0 195 (36, [some (.ref 2), some (.int a)], [.int u2, .ref 2, .int (S.2.1 810 2), .ref 3], h0, 0, 0) (hQv q S.1 h0) := by
      have hd := hB5
      obtain ⟨q6, hq7, hd8⟩ := Option.bind_eq_some_iff.mp hd; clear hd; have hd := hd8; clear hd8
      refine ar_cv ok_Me_readKnownCode hk_Me_readCode rfl rfl (As := [.int u2]) (ad := 2) (rest := [.int (S.2.1 810 2), .ref 3]) rfl rfl (hR.ob (hs_k hR (a := 2) rfl) (Nat.le_of_ble_eq_true rfl)) (Nat.le_of_ble_eq_true rfl) (c_Me_readCode u2 S h0 hR  q6 hq7) (Nat.le_of_ble_eq_true rfl) (Nat.le_of_ble_eq_true rfl) (Nat.le_of_ble_eq_true rfl) (Nat.le_of_ble_eq_true rfl) (pc' := 39) rfl (fun r9 h11 z10 => ?_)
      obtain ⟨rfl, hR13, g14, e15⟩ := z10
      have f16 := hF.tr hF.rf g14
      show am_S _ _ _ _ _ _ _ (39, [some (.ref 2), some (.int a)], [.long q6.1, .int (S.2.1 810 2), .ref 3], h11, 0, 0) _
      refine am_steps ok_Me_readKnownCode 1 (x' := (40, [some (.ref 2), some (.int a)], [.int (Int64.toInt32 q6.1), .int (S.2.1 810 2), .ref 3], h11, 0, 0)) rfl (Nat.le_of_ble_eq_true rfl) (Nat.le_of_ble_eq_true rfl) ?_
      obtain ⟨j17, hx18, hd19⟩ := Option.bind_eq_some_iff.mp hd; clear hd; have hd := hd19; clear hd19
      refine hr_iast ok_Me_readKnownCode rfl hR13 (hs_k hR13 (a := 3) rfl) (hs_ln hR13 rfl) hx18 (pc' := 41) rfl (Nat.le_of_ble_eq_true rfl) (Nat.le_of_ble_eq_true rfl) (fun h20 hR21 g22 => ?_)
      have f23 := hF.tr f16 g22
      refine am_steps ok_Me_readKnownCode 1 (x' := (42, [some (.ref 2), some (.int a)], [.ref 2], h20, 0, 0)) rfl (Nat.le_of_ble_eq_true rfl) (Nat.le_of_ble_eq_true rfl) ?_
      refine hr_get ok_Me_readKnownCode rfl hR21 (kd := 8) (hs_k hR21 (a := 2) rfl) rfl (Nat.le_of_ble_eq_true rfl) (Nat.le_of_ble_eq_true rfl) (v := .ref 4) (congrArg va_rf (hR21.2.2.2.2.1 (808, 2, 4) (by decide))) (pc' := 45) rfl (Nat.le_of_ble_eq_true rfl) (Nat.le_of_ble_eq_true rfl) ?_
      refine am_steps ok_Me_readKnownCode 1 (x' := (46, [some (.ref 2), some (.int a)], [.ref 2, .ref 4], h20, 0, 0)) rfl (Nat.le_of_ble_eq_true rfl) (Nat.le_of_ble_eq_true rfl) ?_
      refine hr_get ok_Me_readKnownCode rfl hR21 (kd := 8) (hs_k hR21 (a := 2) rfl) rfl (Nat.le_of_ble_eq_true rfl) (Nat.le_of_ble_eq_true rfl) (v := .int (q6.2.2.1 810 2)) rfl (pc' := 49) rfl (Nat.le_of_ble_eq_true rfl) (Nat.le_of_ble_eq_true rfl) ?_
      refine am_steps ok_Me_readKnownCode 1 (x' := (50, [some (.ref 2), some (.int a)], [.int a, .int (q6.2.2.1 810 2), .ref 4], h20, 0, 0)) rfl (Nat.le_of_ble_eq_true rfl) (Nat.le_of_ble_eq_true rfl) ?_
      obtain ⟨j24, hx25, hd26⟩ := Option.bind_eq_some_iff.mp hd; clear hd; have hd := hd26; clear hd26
      refine hr_bast ok_Me_readKnownCode rfl hR21 (kd := 23) (hs_k hR21 (a := 4) rfl) (by decide) (hs_ln hR21 rfl) hx25 (pc' := 51) rfl (Nat.le_of_ble_eq_true rfl) (Nat.le_of_ble_eq_true rfl) (fun h27 hR28 g29 => ?_)
      have f30 := hF.tr f23 g29
      refine am_steps ok_Me_readKnownCode 2 (x' := (53, [some (.ref 2), some (.int a)], [.ref 2, .ref 2], h27, 0, 0)) rfl (Nat.le_of_ble_eq_true rfl) (Nat.le_of_ble_eq_true rfl) ?_
      refine hr_get ok_Me_readKnownCode rfl hR28 (kd := 8) (hs_k hR28 (a := 2) rfl) rfl (Nat.le_of_ble_eq_true rfl) (Nat.le_of_ble_eq_true rfl) (v := .int (q6.2.2.1 810 2)) rfl (pc' := 56) rfl (Nat.le_of_ble_eq_true rfl) (Nat.le_of_ble_eq_true rfl) ?_
      refine am_steps ok_Me_readKnownCode 2 (x' := (58, [some (.ref 2), some (.int a)], [.int ((q6.2.2.1 810 2) + 1), .ref 2], h27, 0, 0)) rfl (Nat.le_of_ble_eq_true rfl) (Nat.le_of_ble_eq_true rfl) ?_
      refine hr_put ok_Me_readKnownCode rfl hR28 (kd := 8) (hs_k hR28 (a := 2) rfl) rfl (Nat.le_of_ble_eq_true rfl) (Nat.le_of_ble_eq_true rfl) rfl (S' := (hpI (hpA (hpA q6.2 3 j17 (Int64.toInt32 q6.1)) 4 j24 (am_bn 3 a)) 810 2 ((q6.2.2.1 810 2) + 1))) rfl (hWT.up hR28.2.2 rfl rfl rfl) (pc' := 61) rfl (Nat.le_of_ble_eq_true rfl) (Nat.le_of_ble_eq_true rfl) (fun h31 hR32 g33 => ?_)
      have f34 := hF.tr f30 g33
      cases hd; exact am_ret ok_Me_readKnownCode rfl (Nat.le_of_ble_eq_true rfl) (Nat.le_of_ble_eq_true rfl) ⟨rfl, hR32, f34, (hE.rf.tr e15)⟩
    clear hB5; have hd := hA4; clear hA4
    refine am_if (fun hc35 => ?_) (fun hc35 => ?_)
    · rw [if_pos hc35] at hd
      refine am_steps ok_Me_readKnownCode 1 (x' := (36, [some (.ref 2), some (.int a)], [.int 4, .ref 2, .int (S.2.1 810 2), .ref 3], h0, 0, 0)) rfl (Nat.le_of_ble_eq_true rfl) (Nat.le_of_ble_eq_true rfl) ?_
      cases hd; exact K3 
    · rw [if_neg hc35] at hd
      refine am_steps ok_Me_readKnownCode 2 (x' := (36, [some (.ref 2), some (.int a)], [.int 3, .ref 2, .int (S.2.1 810 2), .ref 3], h0, 0, 0)) rfl (Nat.le_of_ble_eq_true rfl) (Nat.le_of_ble_eq_true rfl) ?_
      cases hd; exact K3 
  · rw [if_neg hc1] at hd
    refine am_steps ok_Me_readKnownCode 2 (x' := (14, [some (.ref 2), some (.int a)], [.int 0, .ref 2], h0, 0, 0)) rfl (Nat.le_of_ble_eq_true rfl) (Nat.le_of_ble_eq_true rfl) ?_
    refine hr_put ok_Me_readKnownCode rfl hR (kd := 8) (hs_k hR (a := 2) rfl) rfl (Nat.le_of_ble_eq_true rfl) (Nat.le_of_ble_eq_true rfl) rfl (S' := (hpI S 803 2 0)) rfl (hWT.up hR.2.2 rfl rfl rfl) (pc' := 17) rfl (Nat.le_of_ble_eq_true rfl) (Nat.le_of_ble_eq_true rfl) (fun h36 hR37 g38 => ?_)
    have f39 := hF.tr hF.rf g38
    cases hd; exact am_ret ok_Me_readKnownCode rfl (Nat.le_of_ble_eq_true rfl) (Nat.le_of_ble_eq_true rfl) ⟨rfl, hR37, f39, hE.rf⟩
def hl_Me_readDigits_5 : Nat → Int32 → Int64 → Int32 → hS → Option (Int64 × hS)
  | 0, _, _, _, _ => none
  | fu + 1, v1, v2, v4, s => if (v1 : Int32) ≤ v4 then (some (v2, s)) else (if (((s.2.1 801 2) - 2) : Int32) ≤ (s.2.1 802 2) then (some (0, (hpI s 803 2 0))) else ((am_ix (s.2.1 802 2) 400).bind fun j7 => ((h_Me_isDigit (s.2.2.2.2.1 1 j7)).bind fun q10 => (if ¬ (q10 : Int32) = 0 then ((h_Me_valueOf (s.2.2.2.2.1 1 j7)).bind fun q19 => (hl_Me_readDigits_5 fu v1 ((v2 * (Int64.ofNat 10)) + (Int32.toInt64 q19)) (v4 + 1) (hpI s 802 2 ((s.2.1 802 2) + 1)))) else (some (0, (hpI s 803 2 0)))))))
set_option maxHeartbeats 4000000 in
set_option maxRecDepth 100000 in
theorem Lc_Me_readDigits_5 (sh0 : List (Nat × Nat)) (h0 : am_H) : ∀ (fu : Nat) (v1 : Int32) (v2 : Int64) (v4 : Int32) (s : hS) (h : am_H), RH s h → hF h0 h → hE sh0 s.1 → ∀ q : Int64 × hS, hl_Me_readDigits_5 fu v1 v2 v4 s = some q → am_S am_Pr none 1 20 0 0 199 (5, [some (.ref 2), some (.int v1), some (.long v2), none, some (.int v4)], [], h, 0, 0) (hQr (.long q.1) q.2 sh0 h0) := by
  intro fu
  induction fu with
  | zero => intro v1 v2 v4 s h hR f he  q hd; cases hd
  | succ fu ih =>
    intro v1 v2 v4 s h hR f he  q hd
    unfold hl_Me_readDigits_5 at hd
    refine am_steps ok_Me_readDigits 3 (x' := (if (v1 : Int32) ≤ v4 then 82 else 11, [some (.ref 2), some (.int v1), some (.long v2), none, some (.int v4)], [], h, 0, 0)) rfl (Nat.le_of_ble_eq_true rfl) (Nat.le_of_ble_eq_true rfl) ?_
    refine am_if (fun hc1 => ?_) (fun hc1 => ?_)
    · rw [if_pos hc1] at hd
      refine am_steps ok_Me_readDigits 1 (x' := (83, [some (.ref 2), some (.int v1), some (.long v2), none, some (.int v4)], [.long v2], h, 0, 0)) rfl (Nat.le_of_ble_eq_true rfl) (Nat.le_of_ble_eq_true rfl) ?_
      cases hd; exact am_ret ok_Me_readDigits rfl (Nat.le_of_ble_eq_true rfl) (Nat.le_of_ble_eq_true rfl) ⟨rfl, hR, f, he⟩
    · rw [if_neg hc1] at hd
      refine am_steps ok_Me_readDigits 1 (x' := (12, [some (.ref 2), some (.int v1), some (.long v2), none, some (.int v4)], [.ref 2], h, 0, 0)) rfl (Nat.le_of_ble_eq_true rfl) (Nat.le_of_ble_eq_true rfl) ?_
      refine hr_get ok_Me_readDigits rfl hR (kd := 8) (hs_k hR (a := 2) rfl) rfl (Nat.le_of_ble_eq_true rfl) (Nat.le_of_ble_eq_true rfl) (v := .int (s.2.1 802 2)) rfl (pc' := 15) rfl (Nat.le_of_ble_eq_true rfl) (Nat.le_of_ble_eq_true rfl) ?_
      refine am_steps ok_Me_readDigits 1 (x' := (16, [some (.ref 2), some (.int v1), some (.long v2), none, some (.int v4)], [.ref 2, .int (s.2.1 802 2)], h, 0, 0)) rfl (Nat.le_of_ble_eq_true rfl) (Nat.le_of_ble_eq_true rfl) ?_
      refine hr_get ok_Me_readDigits rfl hR (kd := 8) (hs_k hR (a := 2) rfl) rfl (Nat.le_of_ble_eq_true rfl) (Nat.le_of_ble_eq_true rfl) (v := .int (s.2.1 801 2)) rfl (pc' := 19) rfl (Nat.le_of_ble_eq_true rfl) (Nat.le_of_ble_eq_true rfl) ?_
      refine am_steps ok_Me_readDigits 3 (x' := (if (((s.2.1 801 2) - 2) : Int32) ≤ (s.2.1 802 2) then 39 else 24, [some (.ref 2), some (.int v1), some (.long v2), none, some (.int v4)], [], h, 0, 0)) rfl (Nat.le_of_ble_eq_true rfl) (Nat.le_of_ble_eq_true rfl) ?_
      refine am_if (fun hc2 => ?_) (fun hc2 => ?_)
      · rw [if_pos hc2] at hd
        refine am_steps ok_Me_readDigits 2 (x' := (41, [some (.ref 2), some (.int v1), some (.long v2), none, some (.int v4)], [.int 0, .ref 2], h, 0, 0)) rfl (Nat.le_of_ble_eq_true rfl) (Nat.le_of_ble_eq_true rfl) ?_
        refine hr_put ok_Me_readDigits rfl hR (kd := 8) (hs_k hR (a := 2) rfl) rfl (Nat.le_of_ble_eq_true rfl) (Nat.le_of_ble_eq_true rfl) rfl (S' := (hpI s 803 2 0)) rfl (hWT.up hR.2.2 rfl rfl rfl) (pc' := 44) rfl (Nat.le_of_ble_eq_true rfl) (Nat.le_of_ble_eq_true rfl) (fun h3 hR4 g5 => ?_)
        have f6 := hF.tr f g5
        refine am_steps ok_Me_readDigits 1 (x' := (45, [some (.ref 2), some (.int v1), some (.long v2), none, some (.int v4)], [.long 0], h3, 0, 0)) rfl (Nat.le_of_ble_eq_true rfl) (Nat.le_of_ble_eq_true rfl) ?_
        cases hd; exact am_ret ok_Me_readDigits rfl (Nat.le_of_ble_eq_true rfl) (Nat.le_of_ble_eq_true rfl) ⟨rfl, hR4, f6, he⟩
      · rw [if_neg hc2] at hd
        refine am_steps ok_Me_readDigits 1 (x' := (25, [some (.ref 2), some (.int v1), some (.long v2), none, some (.int v4)], [.ref 2], h, 0, 0)) rfl (Nat.le_of_ble_eq_true rfl) (Nat.le_of_ble_eq_true rfl) ?_
        refine hr_get ok_Me_readDigits rfl hR (kd := 8) (hs_k hR (a := 2) rfl) rfl (Nat.le_of_ble_eq_true rfl) (Nat.le_of_ble_eq_true rfl) (v := .ref 1) (congrArg va_rf (hR.2.2.2.2.1 (800, 2, 1) (by decide))) (pc' := 28) rfl (Nat.le_of_ble_eq_true rfl) (Nat.le_of_ble_eq_true rfl) ?_
        refine am_steps ok_Me_readDigits 1 (x' := (29, [some (.ref 2), some (.int v1), some (.long v2), none, some (.int v4)], [.ref 2, .ref 1], h, 0, 0)) rfl (Nat.le_of_ble_eq_true rfl) (Nat.le_of_ble_eq_true rfl) ?_
        refine hr_get ok_Me_readDigits rfl hR (kd := 8) (hs_k hR (a := 2) rfl) rfl (Nat.le_of_ble_eq_true rfl) (Nat.le_of_ble_eq_true rfl) (v := .int (s.2.1 802 2)) rfl (pc' := 32) rfl (Nat.le_of_ble_eq_true rfl) (Nat.le_of_ble_eq_true rfl) ?_
        obtain ⟨j7, hx8, hd9⟩ := Option.bind_eq_some_iff.mp hd; clear hd; have hd := hd9; clear hd9
        refine hr_bald ok_Me_readDigits rfl hR (kd := 22) (hs_k hR (a := 1) rfl) (by decide) (hs_ln hR rfl) hx8 (pc' := 33) rfl (Nat.le_of_ble_eq_true rfl) (Nat.le_of_ble_eq_true rfl) ?_
        obtain ⟨q10, hq11, hd12⟩ := Option.bind_eq_some_iff.mp hd; clear hd; have hd := hd12; clear hd12
        refine am_call ok_Me_readDigits hk_Me_isDigit rfl (args' := [.int (s.2.2.2.2.1 1 j7)]) (rest := []) rfl (c_Me_isDigit (s.2.2.2.2.1 1 j7) h q10 hq11) (Nat.le_of_ble_eq_true rfl) (Nat.le_of_ble_eq_true rfl) (Nat.le_of_ble_eq_true rfl) (Nat.le_of_ble_eq_true rfl) (fun r13 h15 z14 => ?_)
        obtain ⟨rfl, z17⟩ := z14; rw [z17]
        show am_S _ _ _ _ _ _ _ (36, [some (.ref 2), some (.int v1), some (.long v2), none, some (.int v4)], [.int q10], h, 0, 0) _
        refine am_steps ok_Me_readDigits 1 (x' := (if ¬ (q10 : Int32) = 0 then 46 else 39, [some (.ref 2), some (.int v1), some (.long v2), none, some (.int v4)], [], h, 0, 0)) rfl (Nat.le_of_ble_eq_true rfl) (Nat.le_of_ble_eq_true rfl) ?_
        refine am_if (fun hc18 => ?_) (fun hc18 => ?_)
        · rw [if_pos hc18] at hd
          refine am_steps ok_Me_readDigits 4 (x' := (52, [some (.ref 2), some (.int v1), some (.long v2), none, some (.int v4)], [.ref 2, .long (v2 * (Int64.ofNat 10))], h, 0, 0)) rfl (Nat.le_of_ble_eq_true rfl) (Nat.le_of_ble_eq_true rfl) ?_
          refine hr_get ok_Me_readDigits rfl hR (kd := 8) (hs_k hR (a := 2) rfl) rfl (Nat.le_of_ble_eq_true rfl) (Nat.le_of_ble_eq_true rfl) (v := .ref 1) (congrArg va_rf (hR.2.2.2.2.1 (800, 2, 1) (by decide))) (pc' := 55) rfl (Nat.le_of_ble_eq_true rfl) (Nat.le_of_ble_eq_true rfl) ?_
          refine am_steps ok_Me_readDigits 1 (x' := (56, [some (.ref 2), some (.int v1), some (.long v2), none, some (.int v4)], [.ref 2, .ref 1, .long (v2 * (Int64.ofNat 10))], h, 0, 0)) rfl (Nat.le_of_ble_eq_true rfl) (Nat.le_of_ble_eq_true rfl) ?_
          refine hr_get ok_Me_readDigits rfl hR (kd := 8) (hs_k hR (a := 2) rfl) rfl (Nat.le_of_ble_eq_true rfl) (Nat.le_of_ble_eq_true rfl) (v := .int (s.2.1 802 2)) rfl (pc' := 59) rfl (Nat.le_of_ble_eq_true rfl) (Nat.le_of_ble_eq_true rfl) ?_
          refine hr_bald ok_Me_readDigits rfl hR (kd := 22) (hs_k hR (a := 1) rfl) (by decide) (hs_ln hR rfl) hx8 (pc' := 60) rfl (Nat.le_of_ble_eq_true rfl) (Nat.le_of_ble_eq_true rfl) ?_
          obtain ⟨q19, hq20, hd21⟩ := Option.bind_eq_some_iff.mp hd; clear hd; have hd := hd21; clear hd21
          refine am_call ok_Me_readDigits hk_Me_valueOf rfl (args' := [.int (s.2.2.2.2.1 1 j7)]) (rest := [.long (v2 * (Int64.ofNat 10))]) rfl (c_Me_valueOf (s.2.2.2.2.1 1 j7) h q19 hq20) (Nat.le_of_ble_eq_true rfl) (Nat.le_of_ble_eq_true rfl) (Nat.le_of_ble_eq_true rfl) (Nat.le_of_ble_eq_true rfl) (fun r22 h24 z23 => ?_)
          obtain ⟨rfl, z26⟩ := z23; rw [z26]
          show am_S _ _ _ _ _ _ _ (63, [some (.ref 2), some (.int v1), some (.long v2), none, some (.int v4)], [.int q19, .long (v2 * (Int64.ofNat 10))], h, 0, 0) _
          refine am_steps ok_Me_readDigits 5 (x' := (68, [some (.ref 2), some (.int v1), some (.long ((v2 * (Int64.ofNat 10)) + (Int32.toInt64 q19))), none, some (.int v4)], [.ref 2, .ref 2], h, 0, 0)) rfl (Nat.le_of_ble_eq_true rfl) (Nat.le_of_ble_eq_true rfl) ?_
          refine hr_get ok_Me_readDigits rfl hR (kd := 8) (hs_k hR (a := 2) rfl) rfl (Nat.le_of_ble_eq_true rfl) (Nat.le_of_ble_eq_true rfl) (v := .int (s.2.1 802 2)) rfl (pc' := 71) rfl (Nat.le_of_ble_eq_true rfl) (Nat.le_of_ble_eq_true rfl) ?_
          refine am_steps ok_Me_readDigits 2 (x' := (73, [some (.ref 2), some (.int v1), some (.long ((v2 * (Int64.ofNat 10)) + (Int32.toInt64 q19))), none, some (.int v4)], [.int ((s.2.1 802 2) + 1), .ref 2], h, 0, 0)) rfl (Nat.le_of_ble_eq_true rfl) (Nat.le_of_ble_eq_true rfl) ?_
          refine hr_put ok_Me_readDigits rfl hR (kd := 8) (hs_k hR (a := 2) rfl) rfl (Nat.le_of_ble_eq_true rfl) (Nat.le_of_ble_eq_true rfl) rfl (S' := (hpI s 802 2 ((s.2.1 802 2) + 1))) rfl (hWT.up hR.2.2 rfl rfl rfl) (pc' := 76) rfl (Nat.le_of_ble_eq_true rfl) (Nat.le_of_ble_eq_true rfl) (fun h27 hR28 g29 => ?_)
          have f30 := hF.tr f g29
          refine am_steps ok_Me_readDigits 2 (x' := (5, [some (.ref 2), some (.int v1), some (.long ((v2 * (Int64.ofNat 10)) + (Int32.toInt64 q19))), none, some (.int (v4 + 1))], [], h27, 0, 0)) rfl (Nat.le_of_ble_eq_true rfl) (Nat.le_of_ble_eq_true rfl) ?_
          exact ih v1 ((v2 * (Int64.ofNat 10)) + (Int32.toInt64 q19)) (v4 + 1) (hpI s 802 2 ((s.2.1 802 2) + 1)) h27 hR28 f30 he  q hd
        · rw [if_neg hc18] at hd
          refine am_steps ok_Me_readDigits 2 (x' := (41, [some (.ref 2), some (.int v1), some (.long v2), none, some (.int v4)], [.int 0, .ref 2], h, 0, 0)) rfl (Nat.le_of_ble_eq_true rfl) (Nat.le_of_ble_eq_true rfl) ?_
          refine hr_put ok_Me_readDigits rfl hR (kd := 8) (hs_k hR (a := 2) rfl) rfl (Nat.le_of_ble_eq_true rfl) (Nat.le_of_ble_eq_true rfl) rfl (S' := (hpI s 803 2 0)) rfl (hWT.up hR.2.2 rfl rfl rfl) (pc' := 44) rfl (Nat.le_of_ble_eq_true rfl) (Nat.le_of_ble_eq_true rfl) (fun h31 hR32 g33 => ?_)
          have f34 := hF.tr f g33
          refine am_steps ok_Me_readDigits 1 (x' := (45, [some (.ref 2), some (.int v1), some (.long v2), none, some (.int v4)], [.long 0], h31, 0, 0)) rfl (Nat.le_of_ble_eq_true rfl) (Nat.le_of_ble_eq_true rfl) ?_
          cases hd; exact am_ret ok_Me_readDigits rfl (Nat.le_of_ble_eq_true rfl) (Nat.le_of_ble_eq_true rfl) ⟨rfl, hR32, f34, he⟩
def h_Me_readDigits (a : Int32) (S : hS) : Option (Int64 × hS) := hl_Me_readDigits_5 100000 a 0 0 S
set_option maxHeartbeats 4000000 in
set_option maxRecDepth 100000 in
theorem c_Me_readDigits (a : Int32) (S : hS) (h0 : am_H) (hR : RH S h0)  (q : Int64 × hS) (hd : h_Me_readDigits a S = some q) : am_Me am_Pr none 1 20 0 0 199 [.ref 2, .int a] h0 (hQr (.long q.1) q.2 S.1 h0) := by
  refine am_enter (d := hd_Me_readDigits) rfl (by decide +kernel) (Nat.le_of_ble_eq_true rfl) ?_
  show am_S _ _ _ _ _ _ _ (0, [some (.ref 2), some (.int a), none, none, none], [], h0, 0, 0) _
  unfold h_Me_readDigits at hd
  refine am_steps ok_Me_readDigits 4 (x' := (5, [some (.ref 2), some (.int a), some (.long 0), none, some (.int 0)], [], h0, 0, 0)) rfl (Nat.le_of_ble_eq_true rfl) (Nat.le_of_ble_eq_true rfl) ?_
  exact Lc_Me_readDigits_5 S.1 h0 100000 a 0 0 S h0 hR hF.rf hE.rf  q hd
def h_Me_readAmount  (S : hS) : Option (hS) := if ((S.2.1 812 2) : Int32) < 4 then ((h_Me_readDigits 15 S).bind fun q2 => ((am_ix (S.2.1 812 2) 4).bind fun j13 => (some (hpI (hpB q2.2 6 j13 q2.1) 812 2 ((q2.2.2.1 812 2) + 1))))) else (some (hpI S 803 2 0))
set_option maxHeartbeats 4000000 in
set_option maxRecDepth 100000 in
theorem c_Me_readAmount  (S : hS) (h0 : am_H) (hR : RH S h0)  (q : hS) (hd : h_Me_readAmount  S = some q) : am_Me am_Pr none 2 44 0 0 196 [.ref 2] h0 (hQv q S.1 h0) := by
  refine am_enter (d := hd_Me_readAmount) rfl (by decide +kernel) (Nat.le_of_ble_eq_true rfl) ?_
  show am_S _ _ _ _ _ _ _ (0, [some (.ref 2)], [], h0, 0, 0) _
  unfold h_Me_readAmount at hd
  refine am_steps ok_Me_readAmount 1 (x' := (1, [some (.ref 2)], [.ref 2], h0, 0, 0)) rfl (Nat.le_of_ble_eq_true rfl) (Nat.le_of_ble_eq_true rfl) ?_
  refine hr_get ok_Me_readAmount rfl hR (kd := 8) (hs_k hR (a := 2) rfl) rfl (Nat.le_of_ble_eq_true rfl) (Nat.le_of_ble_eq_true rfl) (v := .int (S.2.1 812 2)) rfl (pc' := 4) rfl (Nat.le_of_ble_eq_true rfl) (Nat.le_of_ble_eq_true rfl) ?_
  refine am_steps ok_Me_readAmount 1 (x' := (5, [some (.ref 2)], [.ref 2, .int (S.2.1 812 2)], h0, 0, 0)) rfl (Nat.le_of_ble_eq_true rfl) (Nat.le_of_ble_eq_true rfl) ?_
  refine hr_get ok_Me_readAmount rfl hR (kd := 8) (hs_k hR (a := 2) rfl) rfl (Nat.le_of_ble_eq_true rfl) (Nat.le_of_ble_eq_true rfl) (v := .ref 6) (congrArg va_rf (hR.2.2.2.2.1 (811, 2, 6) (by decide))) (pc' := 8) rfl (Nat.le_of_ble_eq_true rfl) (Nat.le_of_ble_eq_true rfl) ?_
  refine hr_alen ok_Me_readAmount rfl hR (kd := 21) (hs_k hR (a := 6) rfl) (by decide) (w := 4) (by rw [(hs_ln hR rfl)]; decide +kernel) (pc' := 9) rfl (Nat.le_of_ble_eq_true rfl) (Nat.le_of_ble_eq_true rfl) ?_
  refine am_steps ok_Me_readAmount 1 (x' := (if ((S.2.1 812 2) : Int32) < 4 then 18 else 12, [some (.ref 2)], [], h0, 0, 0)) rfl (Nat.le_of_ble_eq_true rfl) (Nat.le_of_ble_eq_true rfl) ?_
  refine am_if (fun hc1 => ?_) (fun hc1 => ?_)
  · rw [if_pos hc1] at hd
    refine am_steps ok_Me_readAmount 1 (x' := (19, [some (.ref 2)], [.ref 2], h0, 0, 0)) rfl (Nat.le_of_ble_eq_true rfl) (Nat.le_of_ble_eq_true rfl) ?_
    refine hr_get ok_Me_readAmount rfl hR (kd := 8) (hs_k hR (a := 2) rfl) rfl (Nat.le_of_ble_eq_true rfl) (Nat.le_of_ble_eq_true rfl) (v := .ref 6) (congrArg va_rf (hR.2.2.2.2.1 (811, 2, 6) (by decide))) (pc' := 22) rfl (Nat.le_of_ble_eq_true rfl) (Nat.le_of_ble_eq_true rfl) ?_
    refine am_steps ok_Me_readAmount 1 (x' := (23, [some (.ref 2)], [.ref 2, .ref 6], h0, 0, 0)) rfl (Nat.le_of_ble_eq_true rfl) (Nat.le_of_ble_eq_true rfl) ?_
    refine hr_get ok_Me_readAmount rfl hR (kd := 8) (hs_k hR (a := 2) rfl) rfl (Nat.le_of_ble_eq_true rfl) (Nat.le_of_ble_eq_true rfl) (v := .int (S.2.1 812 2)) rfl (pc' := 26) rfl (Nat.le_of_ble_eq_true rfl) (Nat.le_of_ble_eq_true rfl) ?_
    refine am_steps ok_Me_readAmount 2 (x' := (29, [some (.ref 2)], [.int 15, .ref 2, .int (S.2.1 812 2), .ref 6], h0, 0, 0)) rfl (Nat.le_of_ble_eq_true rfl) (Nat.le_of_ble_eq_true rfl) ?_
    obtain ⟨q2, hq3, hd4⟩ := Option.bind_eq_some_iff.mp hd; clear hd; have hd := hd4; clear hd4
    refine ar_cv ok_Me_readAmount hk_Me_readDigits rfl rfl (As := [.int 15]) (ad := 2) (rest := [.int (S.2.1 812 2), .ref 6]) rfl rfl (hR.ob (hs_k hR (a := 2) rfl) (Nat.le_of_ble_eq_true rfl)) (Nat.le_of_ble_eq_true rfl) (c_Me_readDigits 15 S h0 hR  q2 hq3) (Nat.le_of_ble_eq_true rfl) (Nat.le_of_ble_eq_true rfl) (Nat.le_of_ble_eq_true rfl) (Nat.le_of_ble_eq_true rfl) (pc' := 32) rfl (fun r5 h7 z6 => ?_)
    obtain ⟨rfl, hR9, g10, e11⟩ := z6
    have f12 := hF.tr hF.rf g10
    show am_S _ _ _ _ _ _ _ (32, [some (.ref 2)], [.long q2.1, .int (S.2.1 812 2), .ref 6], h7, 0, 0) _
    obtain ⟨j13, hx14, hd15⟩ := Option.bind_eq_some_iff.mp hd; clear hd; have hd := hd15; clear hd15
    refine hr_last ok_Me_readAmount rfl hR9 (hs_k hR9 (a := 6) rfl) (hs_ln hR9 rfl) hx14 (pc' := 33) rfl (Nat.le_of_ble_eq_true rfl) (Nat.le_of_ble_eq_true rfl) (fun h16 hR17 g18 => ?_)
    have f19 := hF.tr f12 g18
    refine am_steps ok_Me_readAmount 2 (x' := (35, [some (.ref 2)], [.ref 2, .ref 2], h16, 0, 0)) rfl (Nat.le_of_ble_eq_true rfl) (Nat.le_of_ble_eq_true rfl) ?_
    refine hr_get ok_Me_readAmount rfl hR17 (kd := 8) (hs_k hR17 (a := 2) rfl) rfl (Nat.le_of_ble_eq_true rfl) (Nat.le_of_ble_eq_true rfl) (v := .int (q2.2.2.1 812 2)) rfl (pc' := 38) rfl (Nat.le_of_ble_eq_true rfl) (Nat.le_of_ble_eq_true rfl) ?_
    refine am_steps ok_Me_readAmount 2 (x' := (40, [some (.ref 2)], [.int ((q2.2.2.1 812 2) + 1), .ref 2], h16, 0, 0)) rfl (Nat.le_of_ble_eq_true rfl) (Nat.le_of_ble_eq_true rfl) ?_
    refine hr_put ok_Me_readAmount rfl hR17 (kd := 8) (hs_k hR17 (a := 2) rfl) rfl (Nat.le_of_ble_eq_true rfl) (Nat.le_of_ble_eq_true rfl) rfl (S' := (hpI (hpB q2.2 6 j13 q2.1) 812 2 ((q2.2.2.1 812 2) + 1))) rfl (hWT.up hR17.2.2 rfl rfl rfl) (pc' := 43) rfl (Nat.le_of_ble_eq_true rfl) (Nat.le_of_ble_eq_true rfl) (fun h20 hR21 g22 => ?_)
    have f23 := hF.tr f19 g22
    cases hd; exact am_ret ok_Me_readAmount rfl (Nat.le_of_ble_eq_true rfl) (Nat.le_of_ble_eq_true rfl) ⟨rfl, hR21, f23, (hE.rf.tr e11)⟩
  · rw [if_neg hc1] at hd
    refine am_steps ok_Me_readAmount 2 (x' := (14, [some (.ref 2)], [.int 0, .ref 2], h0, 0, 0)) rfl (Nat.le_of_ble_eq_true rfl) (Nat.le_of_ble_eq_true rfl) ?_
    refine hr_put ok_Me_readAmount rfl hR (kd := 8) (hs_k hR (a := 2) rfl) rfl (Nat.le_of_ble_eq_true rfl) (Nat.le_of_ble_eq_true rfl) rfl (S' := (hpI S 803 2 0)) rfl (hWT.up hR.2.2 rfl rfl rfl) (pc' := 17) rfl (Nat.le_of_ble_eq_true rfl) (Nat.le_of_ble_eq_true rfl) (fun h24 hR25 g26 => ?_)
    have f27 := hF.tr hF.rf g26
    cases hd; exact am_ret ok_Me_readAmount rfl (Nat.le_of_ble_eq_true rfl) (Nat.le_of_ble_eq_true rfl) ⟨rfl, hR25, f27, hE.rf⟩
def h_Me_readPriority  (S : hS) : Option (hS) := (h_Me_readDigits 1 S).bind fun q1 => (if (1 : Int32) ≤ (Int64.toInt32 q1.1) then (some (hpI q1.2 817 2 (Int64.toInt32 q1.1))) else (some (hpI (hpI q1.2 817 2 (Int64.toInt32 q1.1)) 803 2 0)))
set_option maxHeartbeats 4000000 in
set_option maxRecDepth 100000 in
theorem c_Me_readPriority  (S : hS) (h0 : am_H) (hR : RH S h0)  (q : hS) (hd : h_Me_readPriority  S = some q) : am_Me am_Pr none 2 44 0 0 197 [.ref 2] h0 (hQv q S.1 h0) := by
  refine am_enter (d := hd_Me_readPriority) rfl (by decide +kernel) (Nat.le_of_ble_eq_true rfl) ?_
  show am_S _ _ _ _ _ _ _ (0, [some (.ref 2)], [], h0, 0, 0) _
  unfold h_Me_readPriority at hd
  refine am_steps ok_Me_readPriority 3 (x' := (3, [some (.ref 2)], [.int 1, .ref 2, .ref 2], h0, 0, 0)) rfl (Nat.le_of_ble_eq_true rfl) (Nat.le_of_ble_eq_true rfl) ?_
  obtain ⟨q1, hq2, hd3⟩ := Option.bind_eq_some_iff.mp hd; clear hd; have hd := hd3; clear hd3
  refine ar_cv ok_Me_readPriority hk_Me_readDigits rfl rfl (As := [.int 1]) (ad := 2) (rest := [.ref 2]) rfl rfl (hR.ob (hs_k hR (a := 2) rfl) (Nat.le_of_ble_eq_true rfl)) (Nat.le_of_ble_eq_true rfl) (c_Me_readDigits 1 S h0 hR  q1 hq2) (Nat.le_of_ble_eq_true rfl) (Nat.le_of_ble_eq_true rfl) (Nat.le_of_ble_eq_true rfl) (Nat.le_of_ble_eq_true rfl) (pc' := 6) rfl (fun r4 h6 z5 => ?_)
  obtain ⟨rfl, hR8, g9, e10⟩ := z5
  have f11 := hF.tr hF.rf g9
  show am_S _ _ _ _ _ _ _ (6, [some (.ref 2)], [.long q1.1, .ref 2], h6, 0, 0) _
  refine am_steps ok_Me_readPriority 1 (x' := (7, [some (.ref 2)], [.int (Int64.toInt32 q1.1), .ref 2], h6, 0, 0)) rfl (Nat.le_of_ble_eq_true rfl) (Nat.le_of_ble_eq_true rfl) ?_
  refine hr_put ok_Me_readPriority rfl hR8 (kd := 8) (hs_k hR8 (a := 2) rfl) rfl (Nat.le_of_ble_eq_true rfl) (Nat.le_of_ble_eq_true rfl) rfl (S' := (hpI q1.2 817 2 (Int64.toInt32 q1.1))) rfl (hWT.up hR8.2.2 rfl rfl rfl) (pc' := 10) rfl (Nat.le_of_ble_eq_true rfl) (Nat.le_of_ble_eq_true rfl) (fun h12 hR13 g14 => ?_)
  have f15 := hF.tr f11 g14
  refine am_steps ok_Me_readPriority 1 (x' := (11, [some (.ref 2)], [.ref 2], h12, 0, 0)) rfl (Nat.le_of_ble_eq_true rfl) (Nat.le_of_ble_eq_true rfl) ?_
  refine hr_get ok_Me_readPriority rfl hR13 (kd := 8) (hs_k hR13 (a := 2) rfl) rfl (Nat.le_of_ble_eq_true rfl) (Nat.le_of_ble_eq_true rfl) (v := .int (Int64.toInt32 q1.1)) rfl (pc' := 14) rfl (Nat.le_of_ble_eq_true rfl) (Nat.le_of_ble_eq_true rfl) ?_
  refine am_steps ok_Me_readPriority 2 (x' := (if (1 : Int32) ≤ (Int64.toInt32 q1.1) then 23 else 18, [some (.ref 2)], [], h12, 0, 0)) rfl (Nat.le_of_ble_eq_true rfl) (Nat.le_of_ble_eq_true rfl) ?_
  refine am_if (fun hc16 => ?_) (fun hc16 => ?_)
  · rw [if_pos hc16] at hd
    cases hd; exact am_ret ok_Me_readPriority rfl (Nat.le_of_ble_eq_true rfl) (Nat.le_of_ble_eq_true rfl) ⟨rfl, hR13, f15, (hE.rf.tr e10)⟩
  · rw [if_neg hc16] at hd
    refine am_steps ok_Me_readPriority 2 (x' := (20, [some (.ref 2)], [.int 0, .ref 2], h12, 0, 0)) rfl (Nat.le_of_ble_eq_true rfl) (Nat.le_of_ble_eq_true rfl) ?_
    refine hr_put ok_Me_readPriority rfl hR13 (kd := 8) (hs_k hR13 (a := 2) rfl) rfl (Nat.le_of_ble_eq_true rfl) (Nat.le_of_ble_eq_true rfl) rfl (S' := (hpI (hpI q1.2 817 2 (Int64.toInt32 q1.1)) 803 2 0)) rfl (hWT.up hR13.2.2 rfl rfl rfl) (pc' := 23) rfl (Nat.le_of_ble_eq_true rfl) (Nat.le_of_ble_eq_true rfl) (fun h17 hR18 g19 => ?_)
    have f20 := hF.tr f15 g19
    cases hd; exact am_ret ok_Me_readPriority rfl (Nat.le_of_ble_eq_true rfl) (Nat.le_of_ble_eq_true rfl) ⟨rfl, hR18, f20, (hE.rf.tr e10)⟩
