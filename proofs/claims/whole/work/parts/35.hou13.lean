/-! Methods of the class as functions of its state. -/
def hl_In_canSettleBehind_2 : Nat → Nat → Int32 → Int32 → hS → Option (Int32)
  | 0, _, _, _, _ => none
  | fu + 1, v0, v1, v2, s => if ((s.2.1 710 v0) : Int32) ≤ v2 then (some 1) else ((h_In_takes v0 v2 s).bind fun q2 => (if (q2 : Int32) = 0 then (hl_In_canSettleBehind_2 fu v0 v1 (v2 + 1) s) else (((s.2.2.2.1 708 v0)).bind fun b11 => ((am_ix v2 (hln s.1 b11)).bind fun j15 => (((s.2.2.2.2.2.2 b11 j15)).bind fun b18 => (if ((s.2.1 1008 b18) : Int32) = v1 then (some 0) else (((s.2.2.2.1 709 v0)).bind fun b23 => ((am_ix v2 (hln s.1 b23)).bind fun j27 => ((h_Po_canMoveBy b18 (s.2.2.2.2.2.1 b23 j27) s).bind fun q30 => (if ¬ (q30 : Int32) = 0 then (hl_In_canSettleBehind_2 fu v0 v1 (v2 + 1) s) else (some 0)))))))))))
set_option maxHeartbeats 4000000 in
set_option maxRecDepth 100000 in
theorem Lc_In_canSettleBehind_2 (s : hS) (h : am_H) (hR : RH s h) : ∀ (fu : Nat) (v0 : Nat) (v1 : Int32) (v2 : Int32), (hK s.1 v0 7) → ∀ (q : Int32), hl_In_canSettleBehind_2 fu v0 v1 v2 s = some q → am_S am_Pr none 1 22 0 0 174 (2, [some (.ref v0), some (.int v1), some (.int v2)], [], h, 0, 0) (am_is (some (.int q)) h) := by
  intro fu
  induction fu with
  | zero => intro v0 v1 v2 hv0 q hd; cases hd
  | succ fu ih =>
    intro v0 v1 v2 hv0 q hd
    unfold hl_In_canSettleBehind_2 at hd
    refine am_steps ok_In_canSettleBehind 2 (x' := (4, [some (.ref v0), some (.int v1), some (.int v2)], [.ref v0, .int v2], h, 0, 0)) rfl (Nat.le_of_ble_eq_true rfl) (Nat.le_of_ble_eq_true rfl) ?_
    refine hr_get ok_In_canSettleBehind rfl hR (kd := 7) hv0 rfl (Nat.le_of_ble_eq_true rfl) (Nat.le_of_ble_eq_true rfl) (v := .int (s.2.1 710 v0)) rfl (pc' := 7) rfl (Nat.le_of_ble_eq_true rfl) (Nat.le_of_ble_eq_true rfl) ?_
    refine am_steps ok_In_canSettleBehind 1 (x' := (if ((s.2.1 710 v0) : Int32) ≤ v2 then 57 else 10, [some (.ref v0), some (.int v1), some (.int v2)], [], h, 0, 0)) rfl (Nat.le_of_ble_eq_true rfl) (Nat.le_of_ble_eq_true rfl) ?_
    refine am_if (fun hc1 => ?_) (fun hc1 => ?_)
    · rw [if_pos hc1] at hd
      refine am_steps ok_In_canSettleBehind 1 (x' := (58, [some (.ref v0), some (.int v1), some (.int v2)], [.int 1], h, 0, 0)) rfl (Nat.le_of_ble_eq_true rfl) (Nat.le_of_ble_eq_true rfl) ?_
      cases hd; exact am_ret ok_In_canSettleBehind rfl (Nat.le_of_ble_eq_true rfl) (Nat.le_of_ble_eq_true rfl) ⟨rfl, rfl⟩
    · rw [if_neg hc1] at hd
      refine am_steps ok_In_canSettleBehind 2 (x' := (12, [some (.ref v0), some (.int v1), some (.int v2)], [.int v2, .ref v0], h, 0, 0)) rfl (Nat.le_of_ble_eq_true rfl) (Nat.le_of_ble_eq_true rfl) ?_
      obtain ⟨q2, hq3, hd4⟩ := Option.bind_eq_some_iff.mp hd; clear hd; have hd := hd4; clear hd4
      refine ar_cv ok_In_canSettleBehind hk_In_takes rfl rfl (As := [.int v2]) (ad := v0) (rest := []) rfl rfl (hR.ob hv0 (Nat.le_of_ble_eq_true rfl)) (Nat.le_of_ble_eq_true rfl) (c_In_takes v0 v2 s h hR hv0 q2 hq3) (Nat.le_of_ble_eq_true rfl) (Nat.le_of_ble_eq_true rfl) (Nat.le_of_ble_eq_true rfl) (Nat.le_of_ble_eq_true rfl) (pc' := 15) rfl (fun r5 h7 z6 => ?_)
      obtain ⟨rfl, z9⟩ := z6; rw [z9]
      show am_S _ _ _ _ _ _ _ (15, [some (.ref v0), some (.int v1), some (.int v2)], [.int q2], h, 0, 0) _
      refine am_steps ok_In_canSettleBehind 1 (x' := (if (q2 : Int32) = 0 then 51 else 18, [some (.ref v0), some (.int v1), some (.int v2)], [], h, 0, 0)) rfl (Nat.le_of_ble_eq_true rfl) (Nat.le_of_ble_eq_true rfl) ?_
      refine am_if (fun hc10 => ?_) (fun hc10 => ?_)
      · rw [if_pos hc10] at hd
        refine am_steps ok_In_canSettleBehind 2 (x' := (2, [some (.ref v0), some (.int v1), some (.int (v2 + 1))], [], h, 0, 0)) rfl (Nat.le_of_ble_eq_true rfl) (Nat.le_of_ble_eq_true rfl) ?_
        exact ih v0 v1 (v2 + 1) hv0 q hd
      · rw [if_neg hc10] at hd
        refine am_steps ok_In_canSettleBehind 1 (x' := (19, [some (.ref v0), some (.int v1), some (.int v2)], [.ref v0], h, 0, 0)) rfl (Nat.le_of_ble_eq_true rfl) (Nat.le_of_ble_eq_true rfl) ?_
        refine hr_get ok_In_canSettleBehind rfl hR (kd := 7) hv0 rfl (Nat.le_of_ble_eq_true rfl) (Nat.le_of_ble_eq_true rfl) (v := va_rf (s.2.2.2.1 708 v0)) rfl (pc' := 22) rfl (Nat.le_of_ble_eq_true rfl) (Nat.le_of_ble_eq_true rfl) ?_
        refine am_steps ok_In_canSettleBehind 1 (x' := (23, [some (.ref v0), some (.int v1), some (.int v2)], [.int v2, va_rf (s.2.2.2.1 708 v0)], h, 0, 0)) rfl (Nat.le_of_ble_eq_true rfl) (Nat.le_of_ble_eq_true rfl) ?_
        obtain ⟨b11, hb12, hd13⟩ := Option.bind_eq_some_iff.mp hd; clear hd; have hd := hd13; clear hd13
        have hk14 := (fun b hb => hR.2.2.1 708 _ b hb) b11 hb12
        rw [hb12]
        show am_S _ _ _ _ _ _ _ (23, [some (.ref v0), some (.int v1), some (.int v2)], [.int v2, .ref b11], h, 0, 0) _
        obtain ⟨j15, hx16, hd17⟩ := Option.bind_eq_some_iff.mp hd; clear hd; have hd := hd17; clear hd17
        refine hr_aald ok_In_canSettleBehind rfl hR (kd := 26) hk14 (by decide) rfl hx16 (pc' := 24) rfl (Nat.le_of_ble_eq_true rfl) (Nat.le_of_ble_eq_true rfl) ?_
        obtain ⟨b18, hb19, hd20⟩ := Option.bind_eq_some_iff.mp hd; clear hd; have hd := hd20; clear hd20
        have hk21 := (fun b hb => hR.2.2.2.1 _ _ (hK.ln hk14) _ b hb) b18 hb19
        rw [hb19]
        show am_S _ _ _ _ _ _ _ (24, [some (.ref v0), some (.int v1), some (.int v2)], [.ref b18], h, 0, 0) _
        refine hr_get ok_In_canSettleBehind rfl hR (kd := 10) hk21 rfl (Nat.le_of_ble_eq_true rfl) (Nat.le_of_ble_eq_true rfl) (v := .int (s.2.1 1008 b18)) rfl (pc' := 27) rfl (Nat.le_of_ble_eq_true rfl) (Nat.le_of_ble_eq_true rfl) ?_
        refine am_steps ok_In_canSettleBehind 2 (x' := (if ((s.2.1 1008 b18) : Int32) = v1 then 49 else 31, [some (.ref v0), some (.int v1), some (.int v2)], [], h, 0, 0)) rfl (Nat.le_of_ble_eq_true rfl) (Nat.le_of_ble_eq_true rfl) ?_
        refine am_if (fun hc22 => ?_) (fun hc22 => ?_)
        · rw [if_pos hc22] at hd
          refine am_steps ok_In_canSettleBehind 1 (x' := (50, [some (.ref v0), some (.int v1), some (.int v2)], [.int 0], h, 0, 0)) rfl (Nat.le_of_ble_eq_true rfl) (Nat.le_of_ble_eq_true rfl) ?_
          cases hd; exact am_ret ok_In_canSettleBehind rfl (Nat.le_of_ble_eq_true rfl) (Nat.le_of_ble_eq_true rfl) ⟨rfl, rfl⟩
        · rw [if_neg hc22] at hd
          refine am_steps ok_In_canSettleBehind 1 (x' := (32, [some (.ref v0), some (.int v1), some (.int v2)], [.ref v0], h, 0, 0)) rfl (Nat.le_of_ble_eq_true rfl) (Nat.le_of_ble_eq_true rfl) ?_
          refine hr_get ok_In_canSettleBehind rfl hR (kd := 7) hv0 rfl (Nat.le_of_ble_eq_true rfl) (Nat.le_of_ble_eq_true rfl) (v := .ref b11) (congrArg va_rf hb12) (pc' := 35) rfl (Nat.le_of_ble_eq_true rfl) (Nat.le_of_ble_eq_true rfl) ?_
          refine am_steps ok_In_canSettleBehind 1 (x' := (36, [some (.ref v0), some (.int v1), some (.int v2)], [.int v2, .ref b11], h, 0, 0)) rfl (Nat.le_of_ble_eq_true rfl) (Nat.le_of_ble_eq_true rfl) ?_
          refine hr_aald ok_In_canSettleBehind rfl hR (kd := 26) hk14 (by decide) rfl hx16 (pc' := 37) rfl (Nat.le_of_ble_eq_true rfl) (Nat.le_of_ble_eq_true rfl) ?_
          show am_S _ _ _ _ _ _ _ (37, [some (.ref v0), some (.int v1), some (.int v2)], [va_rf (s.2.2.2.2.2.2 b11 j15)], h, 0, 0) _
          rw [show va_rf (s.2.2.2.2.2.2 b11 j15) = .ref b18 from congrArg va_rf hb19]
          show am_S _ _ _ _ _ _ _ (37, [some (.ref v0), some (.int v1), some (.int v2)], [.ref b18], h, 0, 0) _
          refine am_steps ok_In_canSettleBehind 1 (x' := (38, [some (.ref v0), some (.int v1), some (.int v2)], [.ref v0, .ref b18], h, 0, 0)) rfl (Nat.le_of_ble_eq_true rfl) (Nat.le_of_ble_eq_true rfl) ?_
          refine hr_get ok_In_canSettleBehind rfl hR (kd := 7) hv0 rfl (Nat.le_of_ble_eq_true rfl) (Nat.le_of_ble_eq_true rfl) (v := va_rf (s.2.2.2.1 709 v0)) rfl (pc' := 41) rfl (Nat.le_of_ble_eq_true rfl) (Nat.le_of_ble_eq_true rfl) ?_
          refine am_steps ok_In_canSettleBehind 1 (x' := (42, [some (.ref v0), some (.int v1), some (.int v2)], [.int v2, va_rf (s.2.2.2.1 709 v0), .ref b18], h, 0, 0)) rfl (Nat.le_of_ble_eq_true rfl) (Nat.le_of_ble_eq_true rfl) ?_
          obtain ⟨b23, hb24, hd25⟩ := Option.bind_eq_some_iff.mp hd; clear hd; have hd := hd25; clear hd25
          have hk26 := (fun b hb => hR.2.2.1 709 _ b hb) b23 hb24
          rw [hb24]
          show am_S _ _ _ _ _ _ _ (42, [some (.ref v0), some (.int v1), some (.int v2)], [.int v2, .ref b23, .ref b18], h, 0, 0) _
          obtain ⟨j27, hx28, hd29⟩ := Option.bind_eq_some_iff.mp hd; clear hd; have hd := hd29; clear hd29
          refine hr_lald ok_In_canSettleBehind rfl hR hk26 rfl hx28 (pc' := 43) rfl (Nat.le_of_ble_eq_true rfl) (Nat.le_of_ble_eq_true rfl) ?_
          obtain ⟨q30, hq31, hd32⟩ := Option.bind_eq_some_iff.mp hd; clear hd; have hd := hd32; clear hd32
          refine ar_cv ok_In_canSettleBehind hk_Po_canMoveBy rfl rfl (As := [.long (s.2.2.2.2.2.1 b23 j27)]) (ad := b18) (rest := []) rfl rfl (hR.ob hk21 (Nat.le_of_ble_eq_true rfl)) (Nat.le_of_ble_eq_true rfl) (c_Po_canMoveBy b18 (s.2.2.2.2.2.1 b23 j27) s h hR hk21 q30 hq31) (Nat.le_of_ble_eq_true rfl) (Nat.le_of_ble_eq_true rfl) (Nat.le_of_ble_eq_true rfl) (Nat.le_of_ble_eq_true rfl) (pc' := 46) rfl (fun r33 h35 z34 => ?_)
          obtain ⟨rfl, z37⟩ := z34; rw [z37]
          show am_S _ _ _ _ _ _ _ (46, [some (.ref v0), some (.int v1), some (.int v2)], [.int q30], h, 0, 0) _
          refine am_steps ok_In_canSettleBehind 1 (x' := (if ¬ (q30 : Int32) = 0 then 51 else 49, [some (.ref v0), some (.int v1), some (.int v2)], [], h, 0, 0)) rfl (Nat.le_of_ble_eq_true rfl) (Nat.le_of_ble_eq_true rfl) ?_
          refine am_if (fun hc38 => ?_) (fun hc38 => ?_)
          · rw [if_pos hc38] at hd
            refine am_steps ok_In_canSettleBehind 2 (x' := (2, [some (.ref v0), some (.int v1), some (.int (v2 + 1))], [], h, 0, 0)) rfl (Nat.le_of_ble_eq_true rfl) (Nat.le_of_ble_eq_true rfl) ?_
            exact ih v0 v1 (v2 + 1) hv0 q hd
          · rw [if_neg hc38] at hd
            refine am_steps ok_In_canSettleBehind 1 (x' := (50, [some (.ref v0), some (.int v1), some (.int v2)], [.int 0], h, 0, 0)) rfl (Nat.le_of_ble_eq_true rfl) (Nat.le_of_ble_eq_true rfl) ?_
            cases hd; exact am_ret ok_In_canSettleBehind rfl (Nat.le_of_ble_eq_true rfl) (Nat.le_of_ble_eq_true rfl) ⟨rfl, rfl⟩
def h_In_canSettleBehind (a : Nat) (b : Int32) (S : hS) : Option (Int32) := hl_In_canSettleBehind_2 100000 a b 0 S
set_option maxHeartbeats 4000000 in
set_option maxRecDepth 100000 in
theorem c_In_canSettleBehind (a : Nat) (b : Int32) (S : hS) (h0 : am_H) (hR : RH S h0) (ha : hK S.1 a 7) (q : Int32) (hd : h_In_canSettleBehind a b S = some q) : am_Me am_Pr none 1 22 0 0 174 [.ref a, .int b] h0 (am_is (some (.int q)) h0) := by
  refine am_enter (d := hd_In_canSettleBehind) rfl (by decide +kernel) (Nat.le_of_ble_eq_true rfl) ?_
  show am_S _ _ _ _ _ _ _ (0, [some (.ref a), some (.int b), none], [], h0, 0, 0) _
  unfold h_In_canSettleBehind at hd
  refine am_steps ok_In_canSettleBehind 2 (x' := (2, [some (.ref a), some (.int b), some (.int 0)], [], h0, 0, 0)) rfl (Nat.le_of_ble_eq_true rfl) (Nat.le_of_ble_eq_true rfl) ?_
  exact Lc_In_canSettleBehind_2 S h0 hR 100000 a b 0 ha q hd
def hl_Qu_firstThatCanSettle_12 : Nat → Int32 → hS → Option (Option Nat × hS)
  | 0, _, _ => none
  | fu + 1, v1, s => if ((s.2.1 1101 16) : Int32) ≤ v1 then (some (none, s)) else ((am_ix v1 250).bind fun j6 => (((s.2.2.2.2.2.2 17 j6)).bind fun b9 => ((h_In_canSettleBehind b9 (s.2.1 1106 16) s).bind fun q13 => (if (q13 : Int32) = 0 then ((h_In_markTaken b9 (s.2.1 1106 16) s).bind fun q22 => (hl_Qu_firstThatCanSettle_12 fu (v1 + 1) q22)) else (some ((some b9), s))))))
set_option maxHeartbeats 4000000 in
set_option maxRecDepth 100000 in
theorem Lc_Qu_firstThatCanSettle_12 (sh0 : List (Nat × Nat)) (h0 : am_H) : ∀ (fu : Nat) (v1 : Int32) (s : hS) (h : am_H), RH s h → hF h0 h → hE sh0 s.1 → ∀ q : Option Nat × hS, hl_Qu_firstThatCanSettle_12 fu v1 s = some q → am_S am_Pr none 2 44 0 0 216 (12, [some (.ref 16), some (.int v1)], [], h, 0, 0) (hQo (va_rf q.1) q.1 7 q.2 sh0 h0) := by
  intro fu
  induction fu with
  | zero => intro v1 s h hR f he  q hd; cases hd
  | succ fu ih =>
    intro v1 s h hR f he  q hd
    unfold hl_Qu_firstThatCanSettle_12 at hd
    refine am_steps ok_Qu_firstThatCanSettle 2 (x' := (14, [some (.ref 16), some (.int v1)], [.ref 16, .int v1], h, 0, 0)) rfl (Nat.le_of_ble_eq_true rfl) (Nat.le_of_ble_eq_true rfl) ?_
    refine hr_get ok_Qu_firstThatCanSettle rfl hR (kd := 11) (hs_k hR (a := 16) rfl) rfl (Nat.le_of_ble_eq_true rfl) (Nat.le_of_ble_eq_true rfl) (v := .int (s.2.1 1101 16)) rfl (pc' := 17) rfl (Nat.le_of_ble_eq_true rfl) (Nat.le_of_ble_eq_true rfl) ?_
    refine am_steps ok_Qu_firstThatCanSettle 1 (x' := (if ((s.2.1 1101 16) : Int32) ≤ v1 then 62 else 20, [some (.ref 16), some (.int v1)], [], h, 0, 0)) rfl (Nat.le_of_ble_eq_true rfl) (Nat.le_of_ble_eq_true rfl) ?_
    refine am_if (fun hc5 => ?_) (fun hc5 => ?_)
    · rw [if_pos hc5] at hd
      refine am_steps ok_Qu_firstThatCanSettle 1 (x' := (63, [some (.ref 16), some (.int v1)], [.null], h, 0, 0)) rfl (Nat.le_of_ble_eq_true rfl) (Nat.le_of_ble_eq_true rfl) ?_
      cases hd; exact am_ret ok_Qu_firstThatCanSettle rfl (Nat.le_of_ble_eq_true rfl) (Nat.le_of_ble_eq_true rfl) ⟨rfl, (fun _ hz => nomatch hz), hR, f, he⟩
    · rw [if_neg hc5] at hd
      refine am_steps ok_Qu_firstThatCanSettle 1 (x' := (21, [some (.ref 16), some (.int v1)], [.ref 16], h, 0, 0)) rfl (Nat.le_of_ble_eq_true rfl) (Nat.le_of_ble_eq_true rfl) ?_
      refine hr_get ok_Qu_firstThatCanSettle rfl hR (kd := 11) (hs_k hR (a := 16) rfl) rfl (Nat.le_of_ble_eq_true rfl) (Nat.le_of_ble_eq_true rfl) (v := .ref 17) (congrArg va_rf (hR.2.2.2.2.1 (1100, 16, 17) (by decide))) (pc' := 24) rfl (Nat.le_of_ble_eq_true rfl) (Nat.le_of_ble_eq_true rfl) ?_
      refine am_steps ok_Qu_firstThatCanSettle 1 (x' := (25, [some (.ref 16), some (.int v1)], [.int v1, .ref 17], h, 0, 0)) rfl (Nat.le_of_ble_eq_true rfl) (Nat.le_of_ble_eq_true rfl) ?_
      obtain ⟨j6, hx7, hd8⟩ := Option.bind_eq_some_iff.mp hd; clear hd; have hd := hd8; clear hd8
      refine hr_aald ok_Qu_firstThatCanSettle rfl hR (kd := 27) (hs_k hR (a := 17) rfl) (by decide) (hs_ln hR rfl) hx7 (pc' := 26) rfl (Nat.le_of_ble_eq_true rfl) (Nat.le_of_ble_eq_true rfl) ?_
      refine am_steps ok_Qu_firstThatCanSettle 1 (x' := (27, [some (.ref 16), some (.int v1)], [.ref 16, va_rf (s.2.2.2.2.2.2 17 j6)], h, 0, 0)) rfl (Nat.le_of_ble_eq_true rfl) (Nat.le_of_ble_eq_true rfl) ?_
      refine hr_get ok_Qu_firstThatCanSettle rfl hR (kd := 11) (hs_k hR (a := 16) rfl) rfl (Nat.le_of_ble_eq_true rfl) (Nat.le_of_ble_eq_true rfl) (v := .int (s.2.1 1106 16)) rfl (pc' := 30) rfl (Nat.le_of_ble_eq_true rfl) (Nat.le_of_ble_eq_true rfl) ?_
      obtain ⟨b9, hb10, hd11⟩ := Option.bind_eq_some_iff.mp hd; clear hd; have hd := hd11; clear hd11
      have hk12 := (fun b hb => hR.2.2.2.1 _ _ (hK.ln (hs_k hR (a := 17) rfl)) _ b hb) b9 hb10
      rw [hb10]
      show am_S _ _ _ _ _ _ _ (30, [some (.ref 16), some (.int v1)], [.int (s.2.1 1106 16), .ref b9], h, 0, 0) _
      obtain ⟨q13, hq14, hd15⟩ := Option.bind_eq_some_iff.mp hd; clear hd; have hd := hd15; clear hd15
      refine ar_cv ok_Qu_firstThatCanSettle hk_In_canSettleBehind rfl rfl (As := [.int (s.2.1 1106 16)]) (ad := b9) (rest := []) rfl rfl (hR.ob hk12 (Nat.le_of_ble_eq_true rfl)) (Nat.le_of_ble_eq_true rfl) (c_In_canSettleBehind b9 (s.2.1 1106 16) s h hR hk12 q13 hq14) (Nat.le_of_ble_eq_true rfl) (Nat.le_of_ble_eq_true rfl) (Nat.le_of_ble_eq_true rfl) (Nat.le_of_ble_eq_true rfl) (pc' := 33) rfl (fun r16 h18 z17 => ?_)
      obtain ⟨rfl, z20⟩ := z17; rw [z20]
      show am_S _ _ _ _ _ _ _ (33, [some (.ref 16), some (.int v1)], [.int q13], h, 0, 0) _
      refine am_steps ok_Qu_firstThatCanSettle 1 (x' := (if (q13 : Int32) = 0 then 43 else 36, [some (.ref 16), some (.int v1)], [], h, 0, 0)) rfl (Nat.le_of_ble_eq_true rfl) (Nat.le_of_ble_eq_true rfl) ?_
      refine am_if (fun hc21 => ?_) (fun hc21 => ?_)
      · rw [if_pos hc21] at hd
        refine am_steps ok_Qu_firstThatCanSettle 1 (x' := (44, [some (.ref 16), some (.int v1)], [.ref 16], h, 0, 0)) rfl (Nat.le_of_ble_eq_true rfl) (Nat.le_of_ble_eq_true rfl) ?_
        refine hr_get ok_Qu_firstThatCanSettle rfl hR (kd := 11) (hs_k hR (a := 16) rfl) rfl (Nat.le_of_ble_eq_true rfl) (Nat.le_of_ble_eq_true rfl) (v := .ref 17) (congrArg va_rf (hR.2.2.2.2.1 (1100, 16, 17) (by decide))) (pc' := 47) rfl (Nat.le_of_ble_eq_true rfl) (Nat.le_of_ble_eq_true rfl) ?_
        refine am_steps ok_Qu_firstThatCanSettle 1 (x' := (48, [some (.ref 16), some (.int v1)], [.int v1, .ref 17], h, 0, 0)) rfl (Nat.le_of_ble_eq_true rfl) (Nat.le_of_ble_eq_true rfl) ?_
        refine hr_aald ok_Qu_firstThatCanSettle rfl hR (kd := 27) (hs_k hR (a := 17) rfl) (by decide) (hs_ln hR rfl) hx7 (pc' := 49) rfl (Nat.le_of_ble_eq_true rfl) (Nat.le_of_ble_eq_true rfl) ?_
        show am_S _ _ _ _ _ _ _ (49, [some (.ref 16), some (.int v1)], [va_rf (s.2.2.2.2.2.2 17 j6)], h, 0, 0) _
        rw [show va_rf (s.2.2.2.2.2.2 17 j6) = .ref b9 from congrArg va_rf hb10]
        show am_S _ _ _ _ _ _ _ (49, [some (.ref 16), some (.int v1)], [.ref b9], h, 0, 0) _
        refine am_steps ok_Qu_firstThatCanSettle 1 (x' := (50, [some (.ref 16), some (.int v1)], [.ref 16, .ref b9], h, 0, 0)) rfl (Nat.le_of_ble_eq_true rfl) (Nat.le_of_ble_eq_true rfl) ?_
        refine hr_get ok_Qu_firstThatCanSettle rfl hR (kd := 11) (hs_k hR (a := 16) rfl) rfl (Nat.le_of_ble_eq_true rfl) (Nat.le_of_ble_eq_true rfl) (v := .int (s.2.1 1106 16)) rfl (pc' := 53) rfl (Nat.le_of_ble_eq_true rfl) (Nat.le_of_ble_eq_true rfl) ?_
        obtain ⟨q22, hq23, hd24⟩ := Option.bind_eq_some_iff.mp hd; clear hd; have hd := hd24; clear hd24
        refine ar_cv ok_Qu_firstThatCanSettle hk_In_markTaken rfl rfl (As := [.int (s.2.1 1106 16)]) (ad := b9) (rest := []) rfl rfl (hR.ob hk12 (Nat.le_of_ble_eq_true rfl)) (Nat.le_of_ble_eq_true rfl) (c_In_markTaken b9 (s.2.1 1106 16) s h hR hk12 q22 hq23) (Nat.le_of_ble_eq_true rfl) (Nat.le_of_ble_eq_true rfl) (Nat.le_of_ble_eq_true rfl) (Nat.le_of_ble_eq_true rfl) (pc' := 56) rfl (fun r25 h27 z26 => ?_)
        obtain ⟨rfl, hR29, g30, e31⟩ := z26
        have f32 := hF.tr f g30
        show am_S _ _ _ _ _ _ _ (56, [some (.ref 16), some (.int v1)], [], h27, 0, 0) _
        refine am_steps ok_Qu_firstThatCanSettle 2 (x' := (12, [some (.ref 16), some (.int (v1 + 1))], [], h27, 0, 0)) rfl (Nat.le_of_ble_eq_true rfl) (Nat.le_of_ble_eq_true rfl) ?_
        exact ih (v1 + 1) q22 h27 hR29 f32 (he.tr e31)  q hd
      · rw [if_neg hc21] at hd
        refine am_steps ok_Qu_firstThatCanSettle 1 (x' := (37, [some (.ref 16), some (.int v1)], [.ref 16], h, 0, 0)) rfl (Nat.le_of_ble_eq_true rfl) (Nat.le_of_ble_eq_true rfl) ?_
        refine hr_get ok_Qu_firstThatCanSettle rfl hR (kd := 11) (hs_k hR (a := 16) rfl) rfl (Nat.le_of_ble_eq_true rfl) (Nat.le_of_ble_eq_true rfl) (v := .ref 17) (congrArg va_rf (hR.2.2.2.2.1 (1100, 16, 17) (by decide))) (pc' := 40) rfl (Nat.le_of_ble_eq_true rfl) (Nat.le_of_ble_eq_true rfl) ?_
        refine am_steps ok_Qu_firstThatCanSettle 1 (x' := (41, [some (.ref 16), some (.int v1)], [.int v1, .ref 17], h, 0, 0)) rfl (Nat.le_of_ble_eq_true rfl) (Nat.le_of_ble_eq_true rfl) ?_
        refine hr_aald ok_Qu_firstThatCanSettle rfl hR (kd := 27) (hs_k hR (a := 17) rfl) (by decide) (hs_ln hR rfl) hx7 (pc' := 42) rfl (Nat.le_of_ble_eq_true rfl) (Nat.le_of_ble_eq_true rfl) ?_
        show am_S _ _ _ _ _ _ _ (42, [some (.ref 16), some (.int v1)], [va_rf (s.2.2.2.2.2.2 17 j6)], h, 0, 0) _
        rw [show va_rf (s.2.2.2.2.2.2 17 j6) = .ref b9 from congrArg va_rf hb10]
        show am_S _ _ _ _ _ _ _ (42, [some (.ref 16), some (.int v1)], [.ref b9], h, 0, 0) _
        cases hd; exact am_ret ok_Qu_firstThatCanSettle rfl (Nat.le_of_ble_eq_true rfl) (Nat.le_of_ble_eq_true rfl) ⟨rfl, (fun _ hz => by cases hz; exact hk12), hR, f, he⟩
def h_Qu_firstThatCanSettle  (S : hS) : Option (Option Nat × hS) := hl_Qu_firstThatCanSettle_12 100000 0 (hpI S 1106 16 ((S.2.1 1106 16) + 1))
set_option maxHeartbeats 4000000 in
set_option maxRecDepth 100000 in
theorem c_Qu_firstThatCanSettle  (S : hS) (h0 : am_H) (hR : RH S h0)  (q : Option Nat × hS) (hd : h_Qu_firstThatCanSettle  S = some q) : am_Me am_Pr none 2 44 0 0 216 [.ref 16] h0 (hQo (va_rf q.1) q.1 7 q.2 S.1 h0) := by
  refine am_enter (d := hd_Qu_firstThatCanSettle) rfl (by decide +kernel) (Nat.le_of_ble_eq_true rfl) ?_
  show am_S _ _ _ _ _ _ _ (0, [some (.ref 16), none], [], h0, 0, 0) _
  unfold h_Qu_firstThatCanSettle at hd
  refine am_steps ok_Qu_firstThatCanSettle 2 (x' := (2, [some (.ref 16), none], [.ref 16, .ref 16], h0, 0, 0)) rfl (Nat.le_of_ble_eq_true rfl) (Nat.le_of_ble_eq_true rfl) ?_
  refine hr_get ok_Qu_firstThatCanSettle rfl hR (kd := 11) (hs_k hR (a := 16) rfl) rfl (Nat.le_of_ble_eq_true rfl) (Nat.le_of_ble_eq_true rfl) (v := .int (S.2.1 1106 16)) rfl (pc' := 5) rfl (Nat.le_of_ble_eq_true rfl) (Nat.le_of_ble_eq_true rfl) ?_
  refine am_steps ok_Qu_firstThatCanSettle 2 (x' := (7, [some (.ref 16), none], [.int ((S.2.1 1106 16) + 1), .ref 16], h0, 0, 0)) rfl (Nat.le_of_ble_eq_true rfl) (Nat.le_of_ble_eq_true rfl) ?_
  refine hr_put ok_Qu_firstThatCanSettle rfl hR (kd := 11) (hs_k hR (a := 16) rfl) rfl (Nat.le_of_ble_eq_true rfl) (Nat.le_of_ble_eq_true rfl) rfl (S' := (hpI S 1106 16 ((S.2.1 1106 16) + 1))) rfl (hWT.up hR.2.2 rfl rfl rfl) (pc' := 10) rfl (Nat.le_of_ble_eq_true rfl) (Nat.le_of_ble_eq_true rfl) (fun h1 hR2 g3 => ?_)
  have f4 := hF.tr hF.rf g3
  refine am_steps ok_Qu_firstThatCanSettle 2 (x' := (12, [some (.ref 16), some (.int 0)], [], h1, 0, 0)) rfl (Nat.le_of_ble_eq_true rfl) (Nat.le_of_ble_eq_true rfl) ?_
  exact Lc_Qu_firstThatCanSettle_12 S.1 h0 100000 0 (hpI S 1106 16 ((S.2.1 1106 16) + 1)) h1 hR2 f4 hE.rf  q hd
def hl_Qu_settleAllThatCan_2 : Nat → Int32 → hS → Option (hS)
  | 0, _, _ => none
  | fu + 1, v1, s => if (250 : Int32) < v1 then (some s) else ((h_Qu_firstThatCanSettle  s).bind fun q2 => (if q2.1 = none then (some q2.2) else ((q2.1).bind fun b14 => ((h_Qu_settle b14 q2.2).bind fun q18 => (hl_Qu_settleAllThatCan_2 fu (v1 + 1) q18)))))
set_option maxHeartbeats 4000000 in
set_option maxRecDepth 100000 in
theorem Lc_Qu_settleAllThatCan_2 (sh0 : List (Nat × Nat)) (h0 : am_H) : ∀ (fu : Nat) (v1 : Int32) (s : hS) (h : am_H), RH s h → hF h0 h → hE sh0 s.1 → ∀ q : hS, hl_Qu_settleAllThatCan_2 fu v1 s = some q → am_S am_Pr none 3 66 0 0 215 (2, [some (.ref 16), some (.int v1), none], [], h, 0, 0) (hQv q sh0 h0) := by
  intro fu
  induction fu with
  | zero => intro v1 s h hR f he  q hd; cases hd
  | succ fu ih =>
    intro v1 s h hR f he  q hd
    unfold hl_Qu_settleAllThatCan_2 at hd
    refine am_steps ok_Qu_settleAllThatCan 3 (x' := (if (250 : Int32) < v1 then 30 else 9, [some (.ref 16), some (.int v1), none], [], h, 0, 0)) rfl (Nat.le_of_ble_eq_true rfl) (Nat.le_of_ble_eq_true rfl) ?_
    refine am_if (fun hc1 => ?_) (fun hc1 => ?_)
    · rw [if_pos hc1] at hd
      cases hd; exact am_ret ok_Qu_settleAllThatCan rfl (Nat.le_of_ble_eq_true rfl) (Nat.le_of_ble_eq_true rfl) ⟨rfl, hR, f, he⟩
    · rw [if_neg hc1] at hd
      refine am_steps ok_Qu_settleAllThatCan 1 (x' := (10, [some (.ref 16), some (.int v1), none], [.ref 16], h, 0, 0)) rfl (Nat.le_of_ble_eq_true rfl) (Nat.le_of_ble_eq_true rfl) ?_
      obtain ⟨q2, hq3, hd4⟩ := Option.bind_eq_some_iff.mp hd; clear hd; have hd := hd4; clear hd4
      refine ar_cv ok_Qu_settleAllThatCan hk_Qu_firstThatCanSettle rfl rfl (As := []) (ad := 16) (rest := []) rfl rfl (hR.ob (hs_k hR (a := 16) rfl) (Nat.le_of_ble_eq_true rfl)) (Nat.le_of_ble_eq_true rfl) (c_Qu_firstThatCanSettle  s h hR  q2 hq3) (Nat.le_of_ble_eq_true rfl) (Nat.le_of_ble_eq_true rfl) (Nat.le_of_ble_eq_true rfl) (Nat.le_of_ble_eq_true rfl) (pc' := 13) rfl (fun r5 h7 z6 => ?_)
      obtain ⟨rfl, hk8, hR9, g10, e11⟩ := z6
      have f12 := hF.tr f g10
      show am_S _ _ _ _ _ _ _ (13, [some (.ref 16), some (.int v1), none], [va_rf q2.1], h7, 0, 0) _
      refine hr_astoren ok_Qu_settleAllThatCan rfl (Nat.le_of_ble_eq_true rfl) (lo' := [some (.ref 16), some (.int v1), some (va_rf q2.1)]) rfl (pc' := 14) rfl (Nat.le_of_ble_eq_true rfl) (Nat.le_of_ble_eq_true rfl) ?_
      refine hr_aloadn ok_Qu_settleAllThatCan rfl rfl (pc' := 15) rfl (Nat.le_of_ble_eq_true rfl) (Nat.le_of_ble_eq_true rfl) ?_
      refine hr_ifnon ok_Qu_settleAllThatCan rfl (pc' := 18) rfl (Nat.le_of_ble_eq_true rfl) (Nat.le_of_ble_eq_true rfl) ?_
      refine am_if (fun hc13 => ?_) (fun hc13 => ?_)
      · rw [if_pos hc13] at hd
        cases hd; exact am_ret ok_Qu_settleAllThatCan rfl (Nat.le_of_ble_eq_true rfl) (Nat.le_of_ble_eq_true rfl) ⟨rfl, hR9, f12, (he.tr e11)⟩
      · rw [if_neg hc13] at hd
        obtain ⟨b14, hb15, hd16⟩ := Option.bind_eq_some_iff.mp hd; clear hd; have hd := hd16; clear hd16
        have hk17 := hk8 b14 hb15
        rw [hb15]
        show am_S _ _ _ _ _ _ _ (19, [some (.ref 16), some (.int v1), some (.ref b14)], [], h7, 0, 0) _
        refine am_steps ok_Qu_settleAllThatCan 2 (x' := (21, [some (.ref 16), some (.int v1), some (.ref b14)], [.ref b14, .ref 16], h7, 0, 0)) rfl (Nat.le_of_ble_eq_true rfl) (Nat.le_of_ble_eq_true rfl) ?_
        obtain ⟨q18, hq19, hd20⟩ := Option.bind_eq_some_iff.mp hd; clear hd; have hd := hd20; clear hd20
        refine ar_cv ok_Qu_settleAllThatCan hk_Qu_settle rfl rfl (As := [.ref b14]) (ad := 16) (rest := []) rfl rfl (hR9.ob (hs_k hR9 (a := 16) rfl) (Nat.le_of_ble_eq_true rfl)) (Nat.le_of_ble_eq_true rfl) (c_Qu_settle b14 q2.2 h7 hR9 hk17 q18 hq19) (Nat.le_of_ble_eq_true rfl) (Nat.le_of_ble_eq_true rfl) (Nat.le_of_ble_eq_true rfl) (Nat.le_of_ble_eq_true rfl) (pc' := 24) rfl (fun r21 h23 z22 => ?_)
        obtain ⟨rfl, hR25, g26, e27⟩ := z22
        have f28 := hF.tr f12 g26
        show am_S _ _ _ _ _ _ _ (24, [some (.ref 16), some (.int v1), some (.ref b14)], [], h23, 0, 0) _
        refine am_steps ok_Qu_settleAllThatCan 2 (x' := (2, [some (.ref 16), some (.int (v1 + 1)), some (.ref b14)], [], h23, 0, 0)) rfl (Nat.le_of_ble_eq_true rfl) (Nat.le_of_ble_eq_true rfl) ?_
        refine am_drop 2 ?_
        exact ih (v1 + 1) q18 h23 hR25 f28 ((he.tr e11).tr e27)  q hd
def h_Qu_settleAllThatCan  (S : hS) : Option (hS) := hl_Qu_settleAllThatCan_2 100000 0 S
set_option maxHeartbeats 4000000 in
set_option maxRecDepth 100000 in
theorem c_Qu_settleAllThatCan  (S : hS) (h0 : am_H) (hR : RH S h0)  (q : hS) (hd : h_Qu_settleAllThatCan  S = some q) : am_Me am_Pr none 3 66 0 0 215 [.ref 16] h0 (hQv q S.1 h0) := by
  refine am_enter (d := hd_Qu_settleAllThatCan) rfl (by decide +kernel) (Nat.le_of_ble_eq_true rfl) ?_
  show am_S _ _ _ _ _ _ _ (0, [some (.ref 16), none, none], [], h0, 0, 0) _
  unfold h_Qu_settleAllThatCan at hd
  refine am_steps ok_Qu_settleAllThatCan 2 (x' := (2, [some (.ref 16), some (.int 0), none], [], h0, 0, 0)) rfl (Nat.le_of_ble_eq_true rfl) (Nat.le_of_ble_eq_true rfl) ?_
  exact Lc_Qu_settleAllThatCan_2 S.1 h0 100000 0 S h0 hR hF.rf hE.rf  q hd
def h_De_okOf (a : Nat) (S : hS) : Option (Nat) := if ¬ ((S.2.1 704 a) : Int32) = 2 then (if ¬ ((S.2.1 704 a) : Int32) = 1 then (some 5) else (some 4)) else (some 3)
set_option maxHeartbeats 4000000 in
set_option maxRecDepth 100000 in
theorem c_De_okOf (a : Nat) (S : hS) (h0 : am_H) (hR : RH S h0) (ha : hK S.1 a 7) (q : Nat) (hd : h_De_okOf a S = some q) : am_Me am_Pr none 0 0 0 0 153 [.ref a] h0 (am_is (some (.ref (am_M + (10 + q)))) h0) := by
  refine am_enter (d := hd_De_okOf) rfl (by decide +kernel) (Nat.le_of_ble_eq_true rfl) ?_
  show am_S _ _ _ _ _ _ _ (0, [some (.ref a)], [], h0, 0, 0) _
  unfold h_De_okOf at hd
  refine am_steps ok_De_okOf 1 (x' := (1, [some (.ref a)], [.ref a], h0, 0, 0)) rfl (Nat.le_of_ble_eq_true rfl) (Nat.le_of_ble_eq_true rfl) ?_
  refine hr_get ok_De_okOf rfl hR (kd := 7) ha rfl (Nat.le_of_ble_eq_true rfl) (Nat.le_of_ble_eq_true rfl) (v := .int (S.2.1 704 a)) rfl (pc' := 4) rfl (Nat.le_of_ble_eq_true rfl) (Nat.le_of_ble_eq_true rfl) ?_
  refine am_steps ok_De_okOf 2 (x' := (if ¬ ((S.2.1 704 a) : Int32) = 2 then 12 else 8, [some (.ref a)], [], h0, 0, 0)) rfl (Nat.le_of_ble_eq_true rfl) (Nat.le_of_ble_eq_true rfl) ?_
  refine am_if (fun hc1 => ?_) (fun hc1 => ?_)
  · rw [if_pos hc1] at hd
    refine am_steps ok_De_okOf 1 (x' := (13, [some (.ref a)], [.ref a], h0, 0, 0)) rfl (Nat.le_of_ble_eq_true rfl) (Nat.le_of_ble_eq_true rfl) ?_
    refine hr_get ok_De_okOf rfl hR (kd := 7) ha rfl (Nat.le_of_ble_eq_true rfl) (Nat.le_of_ble_eq_true rfl) (v := .int (S.2.1 704 a)) rfl (pc' := 16) rfl (Nat.le_of_ble_eq_true rfl) (Nat.le_of_ble_eq_true rfl) ?_
    refine am_steps ok_De_okOf 2 (x' := (if ¬ ((S.2.1 704 a) : Int32) = 1 then 26 else 20, [some (.ref a)], [], h0, 0, 0)) rfl (Nat.le_of_ble_eq_true rfl) (Nat.le_of_ble_eq_true rfl) ?_
    refine am_if (fun hc2 => ?_) (fun hc2 => ?_)
    · rw [if_pos hc2] at hd
      refine ao_ldcwS (d0 := hd_De_okOf) rfl (x := 303) (t := 5) (by decide +kernel) rfl (pc' := 29) rfl ?_
      cases hd; exact am_ret ok_De_okOf rfl (Nat.le_of_ble_eq_true rfl) (Nat.le_of_ble_eq_true rfl) ⟨rfl, rfl⟩
    · rw [if_neg hc2] at hd
      refine ao_ldcwS (d0 := hd_De_okOf) rfl (x := 301) (t := 4) (by decide +kernel) rfl (pc' := 23) rfl ?_
      refine am_steps ok_De_okOf 1 (x' := (29, [some (.ref a)], [.ref (am_M + (10 + 4))], h0, 0, 0)) rfl (Nat.le_of_ble_eq_true rfl) (Nat.le_of_ble_eq_true rfl) ?_
      cases hd; exact am_ret ok_De_okOf rfl (Nat.le_of_ble_eq_true rfl) (Nat.le_of_ble_eq_true rfl) ⟨rfl, rfl⟩
  · rw [if_neg hc1] at hd
    refine ao_ldcwS (d0 := hd_De_okOf) rfl (x := 299) (t := 3) (by decide +kernel) rfl (pc' := 11) rfl ?_
    cases hd; exact am_ret ok_De_okOf rfl (Nat.le_of_ble_eq_true rfl) (Nat.le_of_ble_eq_true rfl) ⟨rfl, rfl⟩
def hl_Qu_tell_2 : Nat → Int32 → hS → Option (hS)
  | 0, _, _ => none
  | fu + 1, v2, s => if ((s.2.1 1105 16) : Int32) ≤ v2 then (some s) else ((am_ix v2 250).bind fun j2 => (((s.2.2.2.2.2.2 19 j2)).bind fun b5 => ((if ¬ ((s.2.1 704 b5) : Int32) = 2 then (some 66) else (some 83)).bind fun (u9 : Int32) => ((h_An_put u9 s).bind fun q13 => (((q13.2.2.2.2.2.2 19 j2)).bind fun b24 => ((h_An_putCode (Int32.toInt64 (q13.2.1 701 b24)) 4 q13).bind fun q28 => (((q28.2.2.2.2.2.2 19 j2)).bind fun b39 => ((h_An_putCode (q28.2.2.1 702 b39) 8 q28).bind fun q43 => ((h_An_put 10 q43).bind fun q54 => (hl_Qu_tell_2 fu (v2 + 1) q54))))))))))
set_option maxHeartbeats 4000000 in
set_option maxRecDepth 100000 in
theorem Lc_Qu_tell_2 {Q : Option Value → am_H → Prop} (sh0 : List (Nat × Nat)) (h0 : am_H) : ∀ (fu : Nat) (v2 : Int32) (s : hS) (h : am_H), RH s h → hF h0 h → hE sh0 s.1 → ∀ q : hS, hl_Qu_tell_2 fu v2 s = some q → (∀ h' : am_H, RH q h' → hF h0 h' → hE sh0 q.1 → am_S am_Pr none 2 48 0 0 224 (76, [some (.ref 16), some (.ref 7), none], [], h', 0, 0) Q) → am_S am_Pr none 2 48 0 0 224 (2, [some (.ref 16), some (.ref 7), some (.int v2)], [], h, 0, 0) Q := by
  intro fu
  induction fu with
  | zero => intro v2 s h hR f he  q hd; cases hd
  | succ fu ih =>
    intro v2 s h hR f he  q hd kk
    unfold hl_Qu_tell_2 at hd
    refine am_steps ok_Qu_tell 2 (x' := (4, [some (.ref 16), some (.ref 7), some (.int v2)], [.ref 16, .int v2], h, 0, 0)) rfl (Nat.le_of_ble_eq_true rfl) (Nat.le_of_ble_eq_true rfl) ?_
    refine hr_get ok_Qu_tell rfl hR (kd := 11) (hs_k hR (a := 16) rfl) rfl (Nat.le_of_ble_eq_true rfl) (Nat.le_of_ble_eq_true rfl) (v := .int (s.2.1 1105 16)) rfl (pc' := 7) rfl (Nat.le_of_ble_eq_true rfl) (Nat.le_of_ble_eq_true rfl) ?_
    refine am_steps ok_Qu_tell 1 (x' := (if ((s.2.1 1105 16) : Int32) ≤ v2 then 76 else 10, [some (.ref 16), some (.ref 7), some (.int v2)], [], h, 0, 0)) rfl (Nat.le_of_ble_eq_true rfl) (Nat.le_of_ble_eq_true rfl) ?_
    refine am_if (fun hc1 => ?_) (fun hc1 => ?_)
    · rw [if_pos hc1] at hd
      refine am_drop 2 ?_
      cases hd; exact kk h hR f he 
    · rw [if_neg hc1] at hd
      refine am_steps ok_Qu_tell 2 (x' := (12, [some (.ref 16), some (.ref 7), some (.int v2)], [.ref 16, .ref 7], h, 0, 0)) rfl (Nat.le_of_ble_eq_true rfl) (Nat.le_of_ble_eq_true rfl) ?_
      refine hr_get ok_Qu_tell rfl hR (kd := 11) (hs_k hR (a := 16) rfl) rfl (Nat.le_of_ble_eq_true rfl) (Nat.le_of_ble_eq_true rfl) (v := .ref 19) (congrArg va_rf (hR.2.2.2.2.1 (1104, 16, 19) (by decide))) (pc' := 15) rfl (Nat.le_of_ble_eq_true rfl) (Nat.le_of_ble_eq_true rfl) ?_
      refine am_steps ok_Qu_tell 1 (x' := (16, [some (.ref 16), some (.ref 7), some (.int v2)], [.int v2, .ref 19, .ref 7], h, 0, 0)) rfl (Nat.le_of_ble_eq_true rfl) (Nat.le_of_ble_eq_true rfl) ?_
      obtain ⟨j2, hx3, hd4⟩ := Option.bind_eq_some_iff.mp hd; clear hd; have hd := hd4; clear hd4
      refine hr_aald ok_Qu_tell rfl hR (kd := 27) (hs_k hR (a := 19) rfl) (by decide) (hs_ln hR rfl) hx3 (pc' := 17) rfl (Nat.le_of_ble_eq_true rfl) (Nat.le_of_ble_eq_true rfl) ?_
      obtain ⟨b5, hb6, hd7⟩ := Option.bind_eq_some_iff.mp hd; clear hd; have hd := hd7; clear hd7
      have hk8 := (fun b hb => hR.2.2.2.1 _ _ (hK.ln (hs_k hR (a := 19) rfl)) _ b hb) b5 hb6
      rw [hb6]
      show am_S _ _ _ _ _ _ _ (17, [some (.ref 16), some (.ref 7), some (.int v2)], [.ref b5, .ref 7], h, 0, 0) _
      refine hr_get ok_Qu_tell rfl hR (kd := 7) hk8 rfl (Nat.le_of_ble_eq_true rfl) (Nat.le_of_ble_eq_true rfl) (v := .int (s.2.1 704 b5)) rfl (pc' := 20) rfl (Nat.le_of_ble_eq_true rfl) (Nat.le_of_ble_eq_true rfl) ?_
      refine am_steps ok_Qu_tell 2 (x' := (if ¬ ((s.2.1 704 b5) : Int32) = 2 then 29 else 24, [some (.ref 16), some (.ref 7), some (.int v2)], [.ref 7], h, 0, 0)) rfl (Nat.le_of_ble_eq_true rfl) (Nat.le_of_ble_eq_true rfl) ?_
      obtain ⟨u9, hA11, hB12⟩ := Option.bind_eq_some_iff.mp hd; clear hd
      have K10 : am_S am_Pr none 2 48 0 0 224 (31, [some (.ref 16), some (.ref 7), some (.int v2)], [.int u9, .ref 7], h, 0, 0) Q := by
        have hd := hB12
        obtain ⟨q13, hq14, hd15⟩ := Option.bind_eq_some_iff.mp hd; clear hd; have hd := hd15; clear hd15
        refine ar_cv ok_Qu_tell hk_An_put rfl rfl (As := [.int u9]) (ad := 7) (rest := []) rfl rfl (hR.ob (hs_k hR (a := 7) rfl) (Nat.le_of_ble_eq_true rfl)) (Nat.le_of_ble_eq_true rfl) (c_An_put u9 s h hR  q13 hq14) (Nat.le_of_ble_eq_true rfl) (Nat.le_of_ble_eq_true rfl) (Nat.le_of_ble_eq_true rfl) (Nat.le_of_ble_eq_true rfl) (pc' := 34) rfl (fun r16 h18 z17 => ?_)
        obtain ⟨rfl, hR20, g21, e22⟩ := z17
        have f23 := hF.tr f g21
        show am_S _ _ _ _ _ _ _ (34, [some (.ref 16), some (.ref 7), some (.int v2)], [], h18, 0, 0) _
        refine am_steps ok_Qu_tell 2 (x' := (36, [some (.ref 16), some (.ref 7), some (.int v2)], [.ref 16, .ref 7], h18, 0, 0)) rfl (Nat.le_of_ble_eq_true rfl) (Nat.le_of_ble_eq_true rfl) ?_
        refine hr_get ok_Qu_tell rfl hR20 (kd := 11) (hs_k hR20 (a := 16) rfl) rfl (Nat.le_of_ble_eq_true rfl) (Nat.le_of_ble_eq_true rfl) (v := .ref 19) (congrArg va_rf (hR20.2.2.2.2.1 (1104, 16, 19) (by decide))) (pc' := 39) rfl (Nat.le_of_ble_eq_true rfl) (Nat.le_of_ble_eq_true rfl) ?_
        refine am_steps ok_Qu_tell 1 (x' := (40, [some (.ref 16), some (.ref 7), some (.int v2)], [.int v2, .ref 19, .ref 7], h18, 0, 0)) rfl (Nat.le_of_ble_eq_true rfl) (Nat.le_of_ble_eq_true rfl) ?_
        refine hr_aald ok_Qu_tell rfl hR20 (kd := 27) (hs_k hR20 (a := 19) rfl) (by decide) (hs_ln hR20 rfl) hx3 (pc' := 41) rfl (Nat.le_of_ble_eq_true rfl) (Nat.le_of_ble_eq_true rfl) ?_
        obtain ⟨b24, hb25, hd26⟩ := Option.bind_eq_some_iff.mp hd; clear hd; have hd := hd26; clear hd26
        have hk27 := (fun b hb => hR20.2.2.2.1 _ _ (hK.ln (hs_k hR20 (a := 19) rfl)) _ b hb) b24 hb25
        rw [hb25]
        show am_S _ _ _ _ _ _ _ (41, [some (.ref 16), some (.ref 7), some (.int v2)], [.ref b24, .ref 7], h18, 0, 0) _
        refine hr_get ok_Qu_tell rfl hR20 (kd := 7) hk27 rfl (Nat.le_of_ble_eq_true rfl) (Nat.le_of_ble_eq_true rfl) (v := .int (q13.2.1 701 b24)) rfl (pc' := 44) rfl (Nat.le_of_ble_eq_true rfl) (Nat.le_of_ble_eq_true rfl) ?_
        refine am_steps ok_Qu_tell 2 (x' := (46, [some (.ref 16), some (.ref 7), some (.int v2)], [.int 4, .long (Int32.toInt64 (q13.2.1 701 b24)), .ref 7], h18, 0, 0)) rfl (Nat.le_of_ble_eq_true rfl) (Nat.le_of_ble_eq_true rfl) ?_
        obtain ⟨q28, hq29, hd30⟩ := Option.bind_eq_some_iff.mp hd; clear hd; have hd := hd30; clear hd30
        refine ar_cv ok_Qu_tell hk_An_putCode rfl rfl (As := [.long (Int32.toInt64 (q13.2.1 701 b24)), .int 4]) (ad := 7) (rest := []) rfl rfl (hR20.ob (hs_k hR20 (a := 7) rfl) (Nat.le_of_ble_eq_true rfl)) (Nat.le_of_ble_eq_true rfl) (c_An_putCode (Int32.toInt64 (q13.2.1 701 b24)) 4 q13 h18 hR20  q28 hq29) (Nat.le_of_ble_eq_true rfl) (Nat.le_of_ble_eq_true rfl) (Nat.le_of_ble_eq_true rfl) (Nat.le_of_ble_eq_true rfl) (pc' := 49) rfl (fun r31 h33 z32 => ?_)
        obtain ⟨rfl, hR35, g36, e37⟩ := z32
        have f38 := hF.tr f23 g36
        show am_S _ _ _ _ _ _ _ (49, [some (.ref 16), some (.ref 7), some (.int v2)], [], h33, 0, 0) _
        refine am_steps ok_Qu_tell 2 (x' := (51, [some (.ref 16), some (.ref 7), some (.int v2)], [.ref 16, .ref 7], h33, 0, 0)) rfl (Nat.le_of_ble_eq_true rfl) (Nat.le_of_ble_eq_true rfl) ?_
        refine hr_get ok_Qu_tell rfl hR35 (kd := 11) (hs_k hR35 (a := 16) rfl) rfl (Nat.le_of_ble_eq_true rfl) (Nat.le_of_ble_eq_true rfl) (v := .ref 19) (congrArg va_rf (hR35.2.2.2.2.1 (1104, 16, 19) (by decide))) (pc' := 54) rfl (Nat.le_of_ble_eq_true rfl) (Nat.le_of_ble_eq_true rfl) ?_
        refine am_steps ok_Qu_tell 1 (x' := (55, [some (.ref 16), some (.ref 7), some (.int v2)], [.int v2, .ref 19, .ref 7], h33, 0, 0)) rfl (Nat.le_of_ble_eq_true rfl) (Nat.le_of_ble_eq_true rfl) ?_
        refine hr_aald ok_Qu_tell rfl hR35 (kd := 27) (hs_k hR35 (a := 19) rfl) (by decide) (hs_ln hR35 rfl) hx3 (pc' := 56) rfl (Nat.le_of_ble_eq_true rfl) (Nat.le_of_ble_eq_true rfl) ?_
        obtain ⟨b39, hb40, hd41⟩ := Option.bind_eq_some_iff.mp hd; clear hd; have hd := hd41; clear hd41
        have hk42 := (fun b hb => hR35.2.2.2.1 _ _ (hK.ln (hs_k hR35 (a := 19) rfl)) _ b hb) b39 hb40
        rw [hb40]
        show am_S _ _ _ _ _ _ _ (56, [some (.ref 16), some (.ref 7), some (.int v2)], [.ref b39, .ref 7], h33, 0, 0) _
        refine hr_get ok_Qu_tell rfl hR35 (kd := 7) hk42 rfl (Nat.le_of_ble_eq_true rfl) (Nat.le_of_ble_eq_true rfl) (v := .long (q28.2.2.1 702 b39)) rfl (pc' := 59) rfl (Nat.le_of_ble_eq_true rfl) (Nat.le_of_ble_eq_true rfl) ?_
        refine am_steps ok_Qu_tell 1 (x' := (61, [some (.ref 16), some (.ref 7), some (.int v2)], [.int 8, .long (q28.2.2.1 702 b39), .ref 7], h33, 0, 0)) rfl (Nat.le_of_ble_eq_true rfl) (Nat.le_of_ble_eq_true rfl) ?_
        obtain ⟨q43, hq44, hd45⟩ := Option.bind_eq_some_iff.mp hd; clear hd; have hd := hd45; clear hd45
        refine ar_cv ok_Qu_tell hk_An_putCode rfl rfl (As := [.long (q28.2.2.1 702 b39), .int 8]) (ad := 7) (rest := []) rfl rfl (hR35.ob (hs_k hR35 (a := 7) rfl) (Nat.le_of_ble_eq_true rfl)) (Nat.le_of_ble_eq_true rfl) (c_An_putCode (q28.2.2.1 702 b39) 8 q28 h33 hR35  q43 hq44) (Nat.le_of_ble_eq_true rfl) (Nat.le_of_ble_eq_true rfl) (Nat.le_of_ble_eq_true rfl) (Nat.le_of_ble_eq_true rfl) (pc' := 64) rfl (fun r46 h48 z47 => ?_)
        obtain ⟨rfl, hR50, g51, e52⟩ := z47
        have f53 := hF.tr f38 g51
        show am_S _ _ _ _ _ _ _ (64, [some (.ref 16), some (.ref 7), some (.int v2)], [], h48, 0, 0) _
        refine am_steps ok_Qu_tell 2 (x' := (67, [some (.ref 16), some (.ref 7), some (.int v2)], [.int 10, .ref 7], h48, 0, 0)) rfl (Nat.le_of_ble_eq_true rfl) (Nat.le_of_ble_eq_true rfl) ?_
        obtain ⟨q54, hq55, hd56⟩ := Option.bind_eq_some_iff.mp hd; clear hd; have hd := hd56; clear hd56
        refine ar_cv ok_Qu_tell hk_An_put rfl rfl (As := [.int 10]) (ad := 7) (rest := []) rfl rfl (hR50.ob (hs_k hR50 (a := 7) rfl) (Nat.le_of_ble_eq_true rfl)) (Nat.le_of_ble_eq_true rfl) (c_An_put 10 q43 h48 hR50  q54 hq55) (Nat.le_of_ble_eq_true rfl) (Nat.le_of_ble_eq_true rfl) (Nat.le_of_ble_eq_true rfl) (Nat.le_of_ble_eq_true rfl) (pc' := 70) rfl (fun r57 h59 z58 => ?_)
        obtain ⟨rfl, hR61, g62, e63⟩ := z58
        have f64 := hF.tr f53 g62
        show am_S _ _ _ _ _ _ _ (70, [some (.ref 16), some (.ref 7), some (.int v2)], [], h59, 0, 0) _
        refine am_steps ok_Qu_tell 2 (x' := (2, [some (.ref 16), some (.ref 7), some (.int (v2 + 1))], [], h59, 0, 0)) rfl (Nat.le_of_ble_eq_true rfl) (Nat.le_of_ble_eq_true rfl) ?_
        exact ih (v2 + 1) q54 h59 hR61 f64 ((((he.tr e22).tr e37).tr e52).tr e63)  q hd kk
      clear hB12; have hd := hA11; clear hA11
      refine am_if (fun hc65 => ?_) (fun hc65 => ?_)
      · rw [if_pos hc65] at hd
        refine am_steps ok_Qu_tell 1 (x' := (31, [some (.ref 16), some (.ref 7), some (.int v2)], [.int 66, .ref 7], h, 0, 0)) rfl (Nat.le_of_ble_eq_true rfl) (Nat.le_of_ble_eq_true rfl) ?_
        cases hd; exact K10 
      · rw [if_neg hc65] at hd
        refine am_steps ok_Qu_tell 2 (x' := (31, [some (.ref 16), some (.ref 7), some (.int v2)], [.int 83, .ref 7], h, 0, 0)) rfl (Nat.le_of_ble_eq_true rfl) (Nat.le_of_ble_eq_true rfl) ?_
        cases hd; exact K10 
def h_Qu_tell  (S : hS) : Option (hS) := (hl_Qu_tell_2 100000 0 S).bind fun q66 => (some (hpI q66 1105 16 0))
set_option maxHeartbeats 4000000 in
set_option maxRecDepth 100000 in
theorem c_Qu_tell  (S : hS) (h0 : am_H) (hR : RH S h0)  (q : hS) (hd : h_Qu_tell  S = some q) : am_Me am_Pr none 2 48 0 0 224 [.ref 16, .ref 7] h0 (hQv q S.1 h0) := by
  refine am_enter (d := hd_Qu_tell) rfl (by decide +kernel) (Nat.le_of_ble_eq_true rfl) ?_
  show am_S _ _ _ _ _ _ _ (0, [some (.ref 16), some (.ref 7), none], [], h0, 0, 0) _
  unfold h_Qu_tell at hd
  refine am_steps ok_Qu_tell 2 (x' := (2, [some (.ref 16), some (.ref 7), some (.int 0)], [], h0, 0, 0)) rfl (Nat.le_of_ble_eq_true rfl) (Nat.le_of_ble_eq_true rfl) ?_
  obtain ⟨q66, hq67, hd68⟩ := Option.bind_eq_some_iff.mp hd; clear hd; have hd := hd68; clear hd68
  refine Lc_Qu_tell_2 S.1 h0 100000 0 S h0 hR hF.rf hE.rf  q66 hq67 (fun h69 hR70 f71 e72 => ?_)
  show am_S _ _ _ _ _ _ _ (76, [some (.ref 16), some (.ref 7), none], [], h69, 0, 0) _
  refine am_steps ok_Qu_tell 2 (x' := (78, [some (.ref 16), some (.ref 7), none], [.int 0, .ref 16], h69, 0, 0)) rfl (Nat.le_of_ble_eq_true rfl) (Nat.le_of_ble_eq_true rfl) ?_
  refine hr_put ok_Qu_tell rfl hR70 (kd := 11) (hs_k hR70 (a := 16) rfl) rfl (Nat.le_of_ble_eq_true rfl) (Nat.le_of_ble_eq_true rfl) rfl (S' := (hpI q66 1105 16 0)) rfl (hWT.up hR70.2.2 rfl rfl rfl) (pc' := 81) rfl (Nat.le_of_ble_eq_true rfl) (Nat.le_of_ble_eq_true rfl) (fun h73 hR74 g75 => ?_)
  have f76 := hF.tr f71 g75
  cases hd; exact am_ret ok_Qu_tell rfl (Nat.le_of_ble_eq_true rfl) (Nat.le_of_ble_eq_true rfl) ⟨rfl, hR74, f76, (hE.rf.tr e72)⟩
def h_De_carryOut  (S : hS) : Option (hS) := if ¬ ((S.2.1 804 2) : Int32) = 14 then ((h_Me_takesReference  S).bind fun q2 => ((if (q2 : Int32) = 0 then (some S) else ((hs_al S).bind fun a113 => ((h_Se_init a113 (hNew S 12 0)).bind fun q122 => ((h_AL14_add2 a113 q122).bind fun q133 => (some q133.2))))).bind fun (u10 : hS) => ((if ¬ ((u10.2.1 804 2) : Int32) = 5 then (if ¬ ((u10.2.1 804 2) : Int32) = 6 then ((h_De_change  u10).bind fun q79 => (some (none, q79))) else ((h_De_confirm  u10).bind fun q90 => (some (q90.1, q90.2)))) else ((h_De_pay  u10).bind fun q101 => (some ((some q101.1), q101.2)))).bind fun (u18 : Option Nat × hS) => ((h_Qu_settleAllThatCan  u18.2).bind fun q27 => ((if u18.1 = none then (some 2) else ((u18.1).bind fun b65 => ((h_De_okOf b65 q27).bind fun q69 => (some q69)))).bind fun (u38 : Nat) => ((h_An_putLine u38 q27).bind fun q42 => ((h_Qu_tell  q42).bind fun q53 => (some q53)))))))) else ((h_An_putLine 2 S).bind fun q144 => ((h_Bo_putStatement (q144.2.1 813 2) q144).bind fun q155 => (some q155)))
set_option maxHeartbeats 4000000 in
set_option maxRecDepth 100000 in
theorem c_De_carryOut  (S : hS) (h0 : am_H) (hR : RH S h0)  (q : hS) (hd : h_De_carryOut  S = some q) : am_Me am_Pr none 10 226 260 5850 152 [.ref 20, .ref 2, .ref 7] h0 (hQv q S.1 h0) := by
  refine am_enter (d := hd_De_carryOut) rfl (by decide +kernel) (Nat.le_of_ble_eq_true rfl) ?_
  show am_S _ _ _ _ _ _ _ (0, [some (.ref 20), some (.ref 2), some (.ref 7), none], [], h0, 0, 0) _
  unfold h_De_carryOut at hd
  refine am_steps ok_De_carryOut 1 (x' := (1, [some (.ref 20), some (.ref 2), some (.ref 7), none], [.ref 2], h0, 0, 0)) rfl (Nat.le_of_ble_eq_true rfl) (Nat.le_of_ble_eq_true rfl) ?_
  refine hr_get ok_De_carryOut rfl hR (kd := 8) (hs_k hR (a := 2) rfl) rfl (Nat.le_of_ble_eq_true rfl) (Nat.le_of_ble_eq_true rfl) (v := .int (S.2.1 804 2)) rfl (pc' := 4) rfl (Nat.le_of_ble_eq_true rfl) (Nat.le_of_ble_eq_true rfl) ?_
  refine am_steps ok_De_carryOut 2 (x' := (if ¬ ((S.2.1 804 2) : Int32) = 14 then 29 else 9, [some (.ref 20), some (.ref 2), some (.ref 7), none], [], h0, 0, 0)) rfl (Nat.le_of_ble_eq_true rfl) (Nat.le_of_ble_eq_true rfl) ?_
  refine am_if (fun hc1 => ?_) (fun hc1 => ?_)
  · rw [if_pos hc1] at hd
    refine am_steps ok_De_carryOut 1 (x' := (30, [some (.ref 20), some (.ref 2), some (.ref 7), none], [.ref 2], h0, 0, 0)) rfl (Nat.le_of_ble_eq_true rfl) (Nat.le_of_ble_eq_true rfl) ?_
    obtain ⟨q2, hq3, hd4⟩ := Option.bind_eq_some_iff.mp hd; clear hd; have hd := hd4; clear hd4
    refine ar_cv ok_De_carryOut hk_Me_takesReference rfl rfl (As := []) (ad := 2) (rest := []) rfl rfl (hR.ob (hs_k hR (a := 2) rfl) (Nat.le_of_ble_eq_true rfl)) (Nat.le_of_ble_eq_true rfl) (c_Me_takesReference  S h0 hR  q2 hq3) (Nat.le_of_ble_eq_true rfl) (Nat.le_of_ble_eq_true rfl) (Nat.le_of_ble_eq_true rfl) (Nat.le_of_ble_eq_true rfl) (pc' := 33) rfl (fun r5 h7 z6 => ?_)
    obtain ⟨rfl, z9⟩ := z6; rw [z9]
    show am_S _ _ _ _ _ _ _ (33, [some (.ref 20), some (.ref 2), some (.ref 7), none], [.int q2], h0, 0, 0) _
    refine am_steps ok_De_carryOut 1 (x' := (if (q2 : Int32) = 0 then 52 else 36, [some (.ref 20), some (.ref 2), some (.ref 7), none], [], h0, 0, 0)) rfl (Nat.le_of_ble_eq_true rfl) (Nat.le_of_ble_eq_true rfl) ?_
    obtain ⟨u10, hA12, hB13⟩ := Option.bind_eq_some_iff.mp hd; clear hd
    have K11 : ∀ h' : am_H, RH u10 h' → hF h0 h' → hE S.1 u10.1 → am_S am_Pr none 10 226 260 5850 152 (52, [some (.ref 20), some (.ref 2), some (.ref 7), none], [], h', 3, 1603) (hQv q S.1 h0) := by
      have hd := hB13
      intro h14 hR15 f16 e17
      refine am_steps ok_De_carryOut 3 (x' := (55, [some (.ref 20), some (.ref 2), some (.ref 7), some (.null)], [.ref 2], h14, 3, 1603)) rfl (Nat.le_of_ble_eq_true rfl) (Nat.le_of_ble_eq_true rfl) ?_
      refine hr_get ok_De_carryOut rfl hR15 (kd := 8) (hs_k hR15 (a := 2) rfl) rfl (Nat.le_of_ble_eq_true rfl) (Nat.le_of_ble_eq_true rfl) (v := .int (u10.2.1 804 2)) rfl (pc' := 58) rfl (Nat.le_of_ble_eq_true rfl) (Nat.le_of_ble_eq_true rfl) ?_
      refine am_steps ok_De_carryOut 2 (x' := (if ¬ ((u10.2.1 804 2) : Int32) = 5 then 71 else 62, [some (.ref 20), some (.ref 2), some (.ref 7), some (.null)], [], h14, 3, 1603)) rfl (Nat.le_of_ble_eq_true rfl) (Nat.le_of_ble_eq_true rfl) ?_
      obtain ⟨u18, hA21, hB22⟩ := Option.bind_eq_some_iff.mp hd; clear hd
      have K20 : ∀ h' : am_H, RH u18.2 h' → hF h0 h' → hE u10.1 u18.2.1 → (∀ b, u18.1 = some b → hK u18.2.1 b 7) → am_S am_Pr none 10 226 260 5850 152 (94, [some (.ref 20), none, some (.ref 7), some (va_rf u18.1)], [], h', 260, 5850) (hQv q S.1 h0) := by
        have hd := hB22
        intro h23 hR24 f25 e26 hk19
        refine am_steps ok_De_carryOut 1 (x' := (95, [some (.ref 20), none, some (.ref 7), some (va_rf u18.1)], [.ref 20], h23, 260, 5850)) rfl (Nat.le_of_ble_eq_true rfl) (Nat.le_of_ble_eq_true rfl) ?_
        refine hr_get ok_De_carryOut rfl hR24 (kd := 5) (hs_k hR24 (a := 20) rfl) rfl (Nat.le_of_ble_eq_true rfl) (Nat.le_of_ble_eq_true rfl) (v := .ref 16) (congrArg va_rf (hR24.2.2.2.2.1 (501, 20, 16) (by decide))) (pc' := 98) rfl (Nat.le_of_ble_eq_true rfl) (Nat.le_of_ble_eq_true rfl) ?_
        obtain ⟨q27, hq28, hd29⟩ := Option.bind_eq_some_iff.mp hd; clear hd; have hd := hd29; clear hd29
        refine ar_cv ok_De_carryOut hk_Qu_settleAllThatCan rfl rfl (As := []) (ad := 16) (rest := []) rfl rfl (hR24.ob (hs_k hR24 (a := 16) rfl) (Nat.le_of_ble_eq_true rfl)) (Nat.le_of_ble_eq_true rfl) (c_Qu_settleAllThatCan  u18.2 h23 hR24  q27 hq28) (Nat.le_of_ble_eq_true rfl) (Nat.le_of_ble_eq_true rfl) (Nat.le_of_ble_eq_true rfl) (Nat.le_of_ble_eq_true rfl) (pc' := 101) rfl (fun r30 h32 z31 => ?_)
        obtain ⟨rfl, hR34, g35, e36⟩ := z31
        have f37 := hF.tr f25 g35
        show am_S _ _ _ _ _ _ _ (101, [some (.ref 20), none, some (.ref 7), some (va_rf u18.1)], [], h32, 260, 5850) _
        refine am_steps ok_De_carryOut 1 (x' := (102, [some (.ref 20), none, some (.ref 7), some (va_rf u18.1)], [.ref 7], h32, 260, 5850)) rfl (Nat.le_of_ble_eq_true rfl) (Nat.le_of_ble_eq_true rfl) ?_
        refine hr_aloadn ok_De_carryOut rfl rfl (pc' := 103) rfl (Nat.le_of_ble_eq_true rfl) (Nat.le_of_ble_eq_true rfl) ?_
        refine hr_ifnon ok_De_carryOut rfl (pc' := 106) rfl (Nat.le_of_ble_eq_true rfl) (Nat.le_of_ble_eq_true rfl) ?_
        obtain ⟨u38, hA40, hB41⟩ := Option.bind_eq_some_iff.mp hd; clear hd
        have K39 : am_S am_Pr none 10 226 260 5850 152 (116, [some (.ref 20), none, some (.ref 7), none], [.ref (am_M + (10 + u38)), .ref 7], h32, 260, 5850) (hQv q S.1 h0) := by
          have hd := hB41
          obtain ⟨q42, hq43, hd44⟩ := Option.bind_eq_some_iff.mp hd; clear hd; have hd := hd44; clear hd44
          refine ar_cv ok_De_carryOut hk_An_putLine rfl rfl (As := [.ref (am_M + (10 + u38))]) (ad := 7) (rest := []) rfl rfl (hR34.ob (hs_k hR34 (a := 7) rfl) (Nat.le_of_ble_eq_true rfl)) (Nat.le_of_ble_eq_true rfl) (c_An_putLine u38 q27 h32 hR34  q42 hq43) (Nat.le_of_ble_eq_true rfl) (Nat.le_of_ble_eq_true rfl) (Nat.le_of_ble_eq_true rfl) (Nat.le_of_ble_eq_true rfl) (pc' := 119) rfl (fun r45 h47 z46 => ?_)
          obtain ⟨rfl, hR49, g50, e51⟩ := z46
          have f52 := hF.tr f37 g50
          show am_S _ _ _ _ _ _ _ (119, [some (.ref 20), none, some (.ref 7), none], [], h47, 260, 5850) _
          refine am_steps ok_De_carryOut 1 (x' := (120, [some (.ref 20), none, some (.ref 7), none], [.ref 20], h47, 260, 5850)) rfl (Nat.le_of_ble_eq_true rfl) (Nat.le_of_ble_eq_true rfl) ?_
          refine hr_get ok_De_carryOut rfl hR49 (kd := 5) (hs_k hR49 (a := 20) rfl) rfl (Nat.le_of_ble_eq_true rfl) (Nat.le_of_ble_eq_true rfl) (v := .ref 16) (congrArg va_rf (hR49.2.2.2.2.1 (501, 20, 16) (by decide))) (pc' := 123) rfl (Nat.le_of_ble_eq_true rfl) (Nat.le_of_ble_eq_true rfl) ?_
          refine am_steps ok_De_carryOut 1 (x' := (124, [some (.ref 20), none, some (.ref 7), none], [.ref 7, .ref 16], h47, 260, 5850)) rfl (Nat.le_of_ble_eq_true rfl) (Nat.le_of_ble_eq_true rfl) ?_
          obtain ⟨q53, hq54, hd55⟩ := Option.bind_eq_some_iff.mp hd; clear hd; have hd := hd55; clear hd55
          refine ar_cv ok_De_carryOut hk_Qu_tell rfl rfl (As := [.ref 7]) (ad := 16) (rest := []) rfl rfl (hR49.ob (hs_k hR49 (a := 16) rfl) (Nat.le_of_ble_eq_true rfl)) (Nat.le_of_ble_eq_true rfl) (c_Qu_tell  q42 h47 hR49  q53 hq54) (Nat.le_of_ble_eq_true rfl) (Nat.le_of_ble_eq_true rfl) (Nat.le_of_ble_eq_true rfl) (Nat.le_of_ble_eq_true rfl) (pc' := 127) rfl (fun r56 h58 z57 => ?_)
          obtain ⟨rfl, hR60, g61, e62⟩ := z57
          have f63 := hF.tr f52 g61
          show am_S _ _ _ _ _ _ _ (127, [some (.ref 20), none, some (.ref 7), none], [], h58, 260, 5850) _
          cases hd; exact am_ret ok_De_carryOut rfl (Nat.le_of_ble_eq_true rfl) (Nat.le_of_ble_eq_true rfl) ⟨rfl, hR60, f63, (((((hE.rf.tr e17).tr e26).tr e36).tr e51).tr e62)⟩
        clear hB41; have hd := hA40; clear hA40
        refine am_if (fun hc64 => ?_) (fun hc64 => ?_)
        · rw [if_pos hc64] at hd
          refine ao_ldcwS (d0 := hd_De_carryOut) rfl (x := 256) (t := 2) (by decide +kernel) rfl (pc' := 109) rfl ?_
          refine am_steps ok_De_carryOut 1 (x' := (116, [some (.ref 20), none, some (.ref 7), some (va_rf u18.1)], [.ref (am_M + (10 + 2)), .ref 7], h32, 260, 5850)) rfl (Nat.le_of_ble_eq_true rfl) (Nat.le_of_ble_eq_true rfl) ?_
          refine am_drop 3 ?_
          cases hd; exact K39 
        · rw [if_neg hc64] at hd
          obtain ⟨b65, hb66, hd67⟩ := Option.bind_eq_some_iff.mp hd; clear hd; have hd := hd67; clear hd67
          have hk68 := (fun b hb => (hk19 b hb).up e36) b65 hb66
          rw [hb66]
          show am_S _ _ _ _ _ _ _ (112, [some (.ref 20), none, some (.ref 7), some (.ref b65)], [.ref 7], h32, 260, 5850) _
          refine am_steps ok_De_carryOut 1 (x' := (113, [some (.ref 20), none, some (.ref 7), some (.ref b65)], [.ref b65, .ref 7], h32, 260, 5850)) rfl (Nat.le_of_ble_eq_true rfl) (Nat.le_of_ble_eq_true rfl) ?_
          obtain ⟨q69, hq70, hd71⟩ := Option.bind_eq_some_iff.mp hd; clear hd; have hd := hd71; clear hd71
          refine am_call ok_De_carryOut hk_De_okOf rfl (args' := [.ref b65]) (rest := [.ref 7]) rfl (c_De_okOf b65 q27 h32 hR34 hk68 q69 hq70) (Nat.le_of_ble_eq_true rfl) (Nat.le_of_ble_eq_true rfl) (Nat.le_of_ble_eq_true rfl) (Nat.le_of_ble_eq_true rfl) (fun r72 h74 z73 => ?_)
          obtain ⟨rfl, z76⟩ := z73; rw [z76]
          show am_S _ _ _ _ _ _ _ (116, [some (.ref 20), none, some (.ref 7), some (.ref b65)], [.ref (am_M + (10 + q69)), .ref 7], h32, 260, 5850) _
          refine am_drop 3 ?_
          cases hd; exact K39 
      clear hB22; have hd := hA21; clear hA21
      refine am_if (fun hc77 => ?_) (fun hc77 => ?_)
      · rw [if_pos hc77] at hd
        refine am_steps ok_De_carryOut 1 (x' := (72, [some (.ref 20), some (.ref 2), some (.ref 7), some (.null)], [.ref 2], h14, 3, 1603)) rfl (Nat.le_of_ble_eq_true rfl) (Nat.le_of_ble_eq_true rfl) ?_
        refine hr_get ok_De_carryOut rfl hR15 (kd := 8) (hs_k hR15 (a := 2) rfl) rfl (Nat.le_of_ble_eq_true rfl) (Nat.le_of_ble_eq_true rfl) (v := .int (u10.2.1 804 2)) rfl (pc' := 75) rfl (Nat.le_of_ble_eq_true rfl) (Nat.le_of_ble_eq_true rfl) ?_
        refine am_steps ok_De_carryOut 2 (x' := (if ¬ ((u10.2.1 804 2) : Int32) = 6 then 89 else 80, [some (.ref 20), some (.ref 2), some (.ref 7), some (.null)], [], h14, 3, 1603)) rfl (Nat.le_of_ble_eq_true rfl) (Nat.le_of_ble_eq_true rfl) ?_
        refine am_if (fun hc78 => ?_) (fun hc78 => ?_)
        · rw [if_pos hc78] at hd
          refine am_steps ok_De_carryOut 2 (x' := (91, [some (.ref 20), some (.ref 2), some (.ref 7), some (.null)], [.ref 2, .ref 20], h14, 3, 1603)) rfl (Nat.le_of_ble_eq_true rfl) (Nat.le_of_ble_eq_true rfl) ?_
          obtain ⟨q79, hq80, hd81⟩ := Option.bind_eq_some_iff.mp hd; clear hd; have hd := hd81; clear hd81
          refine ar_cv ok_De_carryOut hk_De_change rfl rfl (As := [.ref 2]) (ad := 20) (rest := []) rfl rfl (hR15.ob (hs_k hR15 (a := 20) rfl) (Nat.le_of_ble_eq_true rfl)) (Nat.le_of_ble_eq_true rfl) (c_De_change  u10 h14 hR15  q79 hq80) (Nat.le_of_ble_eq_true rfl) (Nat.le_of_ble_eq_true rfl) (Nat.le_of_ble_eq_true rfl) (Nat.le_of_ble_eq_true rfl) (pc' := 94) rfl (fun r82 h84 z83 => ?_)
          obtain ⟨rfl, hR86, g87, e88⟩ := z83
          have f89 := hF.tr f16 g87
          show am_S _ _ _ _ _ _ _ (94, [some (.ref 20), some (.ref 2), some (.ref 7), some (.null)], [], h84, 260, 4173) _
          refine am_drop 1 ?_
          refine am_wide (k' := 260) (n' := 5850) (Nat.le_of_ble_eq_true rfl) (Nat.le_of_ble_eq_true rfl) ?_
          cases hd; exact K20 h84 hR86 f89 e88 (fun _ hz => nomatch hz)
        · rw [if_neg hc78] at hd
          refine am_steps ok_De_carryOut 2 (x' := (82, [some (.ref 20), some (.ref 2), some (.ref 7), some (.null)], [.ref 2, .ref 20], h14, 3, 1603)) rfl (Nat.le_of_ble_eq_true rfl) (Nat.le_of_ble_eq_true rfl) ?_
          obtain ⟨q90, hq91, hd92⟩ := Option.bind_eq_some_iff.mp hd; clear hd; have hd := hd92; clear hd92
          refine ar_cv ok_De_carryOut hk_De_confirm rfl rfl (As := [.ref 2]) (ad := 20) (rest := []) rfl rfl (hR15.ob (hs_k hR15 (a := 20) rfl) (Nat.le_of_ble_eq_true rfl)) (Nat.le_of_ble_eq_true rfl) (c_De_confirm  u10 h14 hR15  q90 hq91) (Nat.le_of_ble_eq_true rfl) (Nat.le_of_ble_eq_true rfl) (Nat.le_of_ble_eq_true rfl) (Nat.le_of_ble_eq_true rfl) (pc' := 85) rfl (fun r93 h95 z94 => ?_)
          obtain ⟨rfl, hk96, hR97, g98, e99⟩ := z94
          have f100 := hF.tr f16 g98
          show am_S _ _ _ _ _ _ _ (85, [some (.ref 20), some (.ref 2), some (.ref 7), some (.null)], [va_rf q90.1], h95, 3, 1603) _
          refine hr_astoren ok_De_carryOut rfl (Nat.le_of_ble_eq_true rfl) (lo' := [some (.ref 20), some (.ref 2), some (.ref 7), some (va_rf q90.1)]) rfl (pc' := 86) rfl (Nat.le_of_ble_eq_true rfl) (Nat.le_of_ble_eq_true rfl) ?_
          refine am_steps ok_De_carryOut 1 (x' := (94, [some (.ref 20), some (.ref 2), some (.ref 7), some (va_rf q90.1)], [], h95, 3, 1603)) rfl (Nat.le_of_ble_eq_true rfl) (Nat.le_of_ble_eq_true rfl) ?_
          refine am_drop 1 ?_
          refine am_wide (k' := 260) (n' := 5850) (Nat.le_of_ble_eq_true rfl) (Nat.le_of_ble_eq_true rfl) ?_
          cases hd; exact K20 h95 hR97 f100 e99 hk96
      · rw [if_neg hc77] at hd
        refine am_steps ok_De_carryOut 2 (x' := (64, [some (.ref 20), some (.ref 2), some (.ref 7), some (.null)], [.ref 2, .ref 20], h14, 3, 1603)) rfl (Nat.le_of_ble_eq_true rfl) (Nat.le_of_ble_eq_true rfl) ?_
        obtain ⟨q101, hq102, hd103⟩ := Option.bind_eq_some_iff.mp hd; clear hd; have hd := hd103; clear hd103
        refine ar_cv ok_De_carryOut hk_De_pay rfl rfl (As := [.ref 2]) (ad := 20) (rest := []) rfl rfl (hR15.ob (hs_k hR15 (a := 20) rfl) (Nat.le_of_ble_eq_true rfl)) (Nat.le_of_ble_eq_true rfl) (c_De_pay  u10 h14 hR15  q101 hq102) (Nat.le_of_ble_eq_true rfl) (Nat.le_of_ble_eq_true rfl) (Nat.le_of_ble_eq_true rfl) (Nat.le_of_ble_eq_true rfl) (pc' := 67) rfl (fun r104 h106 z105 => ?_)
        obtain ⟨rfl, hk107, hR108, g109, e110⟩ := z105
        have f111 := hF.tr f16 g109
        show am_S _ _ _ _ _ _ _ (67, [some (.ref 20), some (.ref 2), some (.ref 7), some (.null)], [.ref q101.1], h106, 37, 5850) _
        refine am_steps ok_De_carryOut 2 (x' := (94, [some (.ref 20), some (.ref 2), some (.ref 7), some (.ref q101.1)], [], h106, 37, 5850)) rfl (Nat.le_of_ble_eq_true rfl) (Nat.le_of_ble_eq_true rfl) ?_
        refine am_drop 1 ?_
        refine am_wide (k' := 260) (n' := 5850) (Nat.le_of_ble_eq_true rfl) (Nat.le_of_ble_eq_true rfl) ?_
        cases hd; exact K20 h106 hR108 f111 e110 (fun _ hz => by cases hz; exact (hk107 _ rfl))
    clear hB13; have hd := hA12; clear hA12
    refine am_if (fun hc112 => ?_) (fun hc112 => ?_)
    · rw [if_pos hc112] at hd
      refine am_wide (k' := 3) (n' := 1603) (Nat.le_of_ble_eq_true rfl) (Nat.le_of_ble_eq_true rfl) ?_
      cases hd; exact K11 h0 hR hF.rf hE.rf
    · rw [if_neg hc112] at hd
      refine am_steps ok_De_carryOut 1 (x' := (37, [some (.ref 20), some (.ref 2), some (.ref 7), none], [.ref 20], h0, 0, 0)) rfl (Nat.le_of_ble_eq_true rfl) (Nat.le_of_ble_eq_true rfl) ?_
      refine hr_get ok_De_carryOut rfl hR (kd := 5) (hs_k hR (a := 20) rfl) rfl (Nat.le_of_ble_eq_true rfl) (Nat.le_of_ble_eq_true rfl) (v := .ref 21) (congrArg va_rf (hR.2.2.2.2.1 (502, 20, 21) (by decide))) (pc' := 40) rfl (Nat.le_of_ble_eq_true rfl) (Nat.le_of_ble_eq_true rfl) ?_
      obtain ⟨a113, ha114, hd115⟩ := Option.bind_eq_some_iff.mp hd; clear hd; have hd := hd115; clear hd115
      refine hr_new ok_De_carryOut rfl hR (kd := 12) rfl (Nat.le_of_ble_eq_true rfl) (Nat.le_of_ble_eq_true rfl) (hs_al1 ha114) (hs_al2 ha114) (pc' := 43) rfl (k' := 1) rfl (n' := 3) rfl (Nat.le_of_ble_eq_true rfl) (Nat.le_of_ble_eq_true rfl) (fun h116 hR117 g118 => ?_)
      have f119 := hF.tr hF.rf g118
      have e120 := hNew_E S 12 0
      have hk121 := hs_al3 ha114 (hNew_K S 12 0)
      refine am_steps ok_De_carryOut 2 (x' := (45, [some (.ref 20), some (.ref 2), some (.ref 7), none], [.ref 2, .ref a113, .ref a113, .ref 21], h116, 1, 3)) rfl (Nat.le_of_ble_eq_true rfl) (Nat.le_of_ble_eq_true rfl) ?_
      obtain ⟨q122, hq123, hd124⟩ := Option.bind_eq_some_iff.mp hd; clear hd; have hd := hd124; clear hd124
      refine am_call ok_De_carryOut hk_Se_init rfl (args' := [.ref a113, .ref 2]) (rest := [.ref a113, .ref 21]) rfl (c_Se_init a113 (hNew S 12 0) h116 hR117 hk121 q122 hq123) (Nat.le_of_ble_eq_true rfl) (Nat.le_of_ble_eq_true rfl) (Nat.le_of_ble_eq_true rfl) (Nat.le_of_ble_eq_true rfl) (fun r125 h127 z126 => ?_)
      obtain ⟨rfl, hR129, g130, e131⟩ := z126
      have f132 := hF.tr f119 g130
      show am_S _ _ _ _ _ _ _ (48, [some (.ref 20), some (.ref 2), some (.ref 7), none], [.ref a113, .ref 21], h127, 2, 403) _
      obtain ⟨q133, hq134, hd135⟩ := Option.bind_eq_some_iff.mp hd; clear hd; have hd := hd135; clear hd135
      refine ar_cv ok_De_carryOut hk_AL_add2 rfl rfl (As := [.ref a113]) (ad := 21) (rest := []) rfl rfl (hR129.ob (hs_k hR129 (a := 21) rfl) (Nat.le_of_ble_eq_true rfl)) (Nat.le_of_ble_eq_true rfl) (c_AL14_add2 a113 q122 h127 hR129 (hk121.up e131) q133 hq134) (Nat.le_of_ble_eq_true rfl) (Nat.le_of_ble_eq_true rfl) (Nat.le_of_ble_eq_true rfl) (Nat.le_of_ble_eq_true rfl) (pc' := 51) rfl (fun r136 h138 z137 => ?_)
      obtain ⟨rfl, hR140, g141, e142⟩ := z137
      have f143 := hF.tr f132 g141
      show am_S _ _ _ _ _ _ _ (51, [some (.ref 20), some (.ref 2), some (.ref 7), none], [.int q133.1], h138, 3, 1603) _
      refine am_steps ok_De_carryOut 1 (x' := (52, [some (.ref 20), some (.ref 2), some (.ref 7), none], [], h138, 3, 1603)) rfl (Nat.le_of_ble_eq_true rfl) (Nat.le_of_ble_eq_true rfl) ?_
      cases hd; exact K11 h138 hR140 f143 ((e120.tr e131).tr e142)
  · rw [if_neg hc1] at hd
    refine am_steps ok_De_carryOut 1 (x' := (10, [some (.ref 20), some (.ref 2), some (.ref 7), none], [.ref 7], h0, 0, 0)) rfl (Nat.le_of_ble_eq_true rfl) (Nat.le_of_ble_eq_true rfl) ?_
    refine ao_ldcwS (d0 := hd_De_carryOut) rfl (x := 256) (t := 2) (by decide +kernel) rfl (pc' := 13) rfl ?_
    obtain ⟨q144, hq145, hd146⟩ := Option.bind_eq_some_iff.mp hd; clear hd; have hd := hd146; clear hd146
    refine ar_cv ok_De_carryOut hk_An_putLine rfl rfl (As := [.ref (am_M + (10 + 2))]) (ad := 7) (rest := []) rfl rfl (hR.ob (hs_k hR (a := 7) rfl) (Nat.le_of_ble_eq_true rfl)) (Nat.le_of_ble_eq_true rfl) (c_An_putLine 2 S h0 hR  q144 hq145) (Nat.le_of_ble_eq_true rfl) (Nat.le_of_ble_eq_true rfl) (Nat.le_of_ble_eq_true rfl) (Nat.le_of_ble_eq_true rfl) (pc' := 16) rfl (fun r147 h149 z148 => ?_)
    obtain ⟨rfl, hR151, g152, e153⟩ := z148
    have f154 := hF.tr hF.rf g152
    show am_S _ _ _ _ _ _ _ (16, [some (.ref 20), some (.ref 2), some (.ref 7), none], [], h149, 0, 0) _
    refine am_steps ok_De_carryOut 1 (x' := (17, [some (.ref 20), some (.ref 2), some (.ref 7), none], [.ref 20], h149, 0, 0)) rfl (Nat.le_of_ble_eq_true rfl) (Nat.le_of_ble_eq_true rfl) ?_
    refine hr_get ok_De_carryOut rfl hR151 (kd := 5) (hs_k hR151 (a := 20) rfl) rfl (Nat.le_of_ble_eq_true rfl) (Nat.le_of_ble_eq_true rfl) (v := .ref 10) (congrArg va_rf (hR151.2.2.2.2.1 (500, 20, 10) (by decide))) (pc' := 20) rfl (Nat.le_of_ble_eq_true rfl) (Nat.le_of_ble_eq_true rfl) ?_
    refine am_steps ok_De_carryOut 1 (x' := (21, [some (.ref 20), some (.ref 2), some (.ref 7), none], [.ref 2, .ref 10], h149, 0, 0)) rfl (Nat.le_of_ble_eq_true rfl) (Nat.le_of_ble_eq_true rfl) ?_
    refine hr_get ok_De_carryOut rfl hR151 (kd := 8) (hs_k hR151 (a := 2) rfl) rfl (Nat.le_of_ble_eq_true rfl) (Nat.le_of_ble_eq_true rfl) (v := .int (q144.2.1 813 2)) rfl (pc' := 24) rfl (Nat.le_of_ble_eq_true rfl) (Nat.le_of_ble_eq_true rfl) ?_
    refine am_steps ok_De_carryOut 1 (x' := (25, [some (.ref 20), some (.ref 2), some (.ref 7), none], [.ref 7, .int (q144.2.1 813 2), .ref 10], h149, 0, 0)) rfl (Nat.le_of_ble_eq_true rfl) (Nat.le_of_ble_eq_true rfl) ?_
    obtain ⟨q155, hq156, hd157⟩ := Option.bind_eq_some_iff.mp hd; clear hd; have hd := hd157; clear hd157
    refine ar_cv ok_De_carryOut hk_Bo_putStatement rfl rfl (As := [.int (q144.2.1 813 2), .ref 7]) (ad := 10) (rest := []) rfl rfl (hR151.ob (hs_k hR151 (a := 10) rfl) (Nat.le_of_ble_eq_true rfl)) (Nat.le_of_ble_eq_true rfl) (c_Bo_putStatement (q144.2.1 813 2) q144 h149 hR151  q155 hq156) (Nat.le_of_ble_eq_true rfl) (Nat.le_of_ble_eq_true rfl) (Nat.le_of_ble_eq_true rfl) (Nat.le_of_ble_eq_true rfl) (pc' := 28) rfl (fun r158 h160 z159 => ?_)
    obtain ⟨rfl, hR162, g163, e164⟩ := z159
    have f165 := hF.tr f154 g163
    show am_S _ _ _ _ _ _ _ (28, [some (.ref 20), some (.ref 2), some (.ref 7), none], [], h160, 0, 0) _
    cases hd; exact am_ret ok_De_carryOut rfl (Nat.le_of_ble_eq_true rfl) (Nat.le_of_ble_eq_true rfl) ⟨rfl, hR162, f165, ((hE.rf.tr e153).tr e164)⟩
def h_Ho_send (a : Int32) (S : hS) : Option (Int32 × hS) := if ((S.2.1 600 9) : Int32) = 0 then (some (0, S)) else (if (a : Int32) < 1 then (some (0, S)) else (if (a : Int32) ≤ (S.2.1 1 0) then ((h_An_clear  S).bind fun q4 => ((h_Me_read a (hpI q4 1 0 0)).bind fun q19 => ((if (q19.1 : Int32) = 0 then (some (1, q19.2)) else ((h_De_judge  q19.2).bind fun q86 => (some (q86.1, q86.2)))).bind fun (u30 : Int32 × hS) => (if (u30.1 : Int32) = 0 then (if ((u30.2.2.1 804 2) : Int32) = 14 then ((h_De_carryOut  u30.2).bind fun q40 => (some (1, q40))) else ((h_Di_writeRecord a u30.2).bind fun q51 => (if ¬ (q51.1 : Int32) = 0 then ((h_De_carryOut  q51.2).bind fun q63 => (some (1, q63))) else (some (2, q51.2))))) else ((h_An_putVerdict u30.1 u30.2).bind fun q74 => (some (1, q74))))))) else (some (0, S))))
set_option maxHeartbeats 4000000 in
set_option maxRecDepth 100000 in
theorem c_Ho_send (a : Int32) (S : hS) (h0 : am_H) (hR : RH S h0)  (q : Int32 × hS) (hd : h_Ho_send a S = some q) : am_Me am_Pr none 11 249 261 5860 2 [.ref 0, .int a] h0 (hQr (.int q.1) q.2 S.1 h0) := by
  refine am_enter (d := hd_Ho_send) rfl (by decide +kernel) (Nat.le_of_ble_eq_true rfl) ?_
  show am_S _ _ _ _ _ _ _ (0, [some (.ref 0), some (.int a), none], [], h0, 0, 0) _
  unfold h_Ho_send at hd
  refine am_steps ok_Ho_send 1 (x' := (1, [some (.ref 0), some (.int a), none], [.ref 0], h0, 0, 0)) rfl (Nat.le_of_ble_eq_true rfl) (Nat.le_of_ble_eq_true rfl) ?_
  refine hr_get ok_Ho_send rfl hR (kd := 0) (hs_k hR (a := 0) rfl) rfl (Nat.le_of_ble_eq_true rfl) (Nat.le_of_ble_eq_true rfl) (v := .ref 9) (congrArg va_rf (hR.2.2.2.2.1 (4, 0, 9) (by decide))) (pc' := 4) rfl (Nat.le_of_ble_eq_true rfl) (Nat.le_of_ble_eq_true rfl) ?_
  refine hr_get ok_Ho_send rfl hR (kd := 6) (hs_k hR (a := 9) rfl) rfl (Nat.le_of_ble_eq_true rfl) (Nat.le_of_ble_eq_true rfl) (v := .int (S.2.1 600 9)) rfl (pc' := 7) rfl (Nat.le_of_ble_eq_true rfl) (Nat.le_of_ble_eq_true rfl) ?_
  refine am_steps ok_Ho_send 1 (x' := (if ((S.2.1 600 9) : Int32) = 0 then 23 else 10, [some (.ref 0), some (.int a), none], [], h0, 0, 0)) rfl (Nat.le_of_ble_eq_true rfl) (Nat.le_of_ble_eq_true rfl) ?_
  refine am_if (fun hc1 => ?_) (fun hc1 => ?_)
  · rw [if_pos hc1] at hd
    refine am_steps ok_Ho_send 1 (x' := (24, [some (.ref 0), some (.int a), none], [.int 0], h0, 0, 0)) rfl (Nat.le_of_ble_eq_true rfl) (Nat.le_of_ble_eq_true rfl) ?_
    cases hd; exact am_ret ok_Ho_send rfl (Nat.le_of_ble_eq_true rfl) (Nat.le_of_ble_eq_true rfl) ⟨rfl, hR, hF.rf, hE.rf⟩
  · rw [if_neg hc1] at hd
    refine am_steps ok_Ho_send 3 (x' := (if (a : Int32) < 1 then 23 else 15, [some (.ref 0), some (.int a), none], [], h0, 0, 0)) rfl (Nat.le_of_ble_eq_true rfl) (Nat.le_of_ble_eq_true rfl) ?_
    refine am_if (fun hc2 => ?_) (fun hc2 => ?_)
    · rw [if_pos hc2] at hd
      refine am_steps ok_Ho_send 1 (x' := (24, [some (.ref 0), some (.int a), none], [.int 0], h0, 0, 0)) rfl (Nat.le_of_ble_eq_true rfl) (Nat.le_of_ble_eq_true rfl) ?_
      cases hd; exact am_ret ok_Ho_send rfl (Nat.le_of_ble_eq_true rfl) (Nat.le_of_ble_eq_true rfl) ⟨rfl, hR, hF.rf, hE.rf⟩
    · rw [if_neg hc2] at hd
      refine am_steps ok_Ho_send 2 (x' := (17, [some (.ref 0), some (.int a), none], [.ref 0, .int a], h0, 0, 0)) rfl (Nat.le_of_ble_eq_true rfl) (Nat.le_of_ble_eq_true rfl) ?_
      refine hr_get ok_Ho_send rfl hR (kd := 0) (hs_k hR (a := 0) rfl) rfl (Nat.le_of_ble_eq_true rfl) (Nat.le_of_ble_eq_true rfl) (v := .int (S.2.1 1 0)) rfl (pc' := 20) rfl (Nat.le_of_ble_eq_true rfl) (Nat.le_of_ble_eq_true rfl) ?_
      refine am_steps ok_Ho_send 1 (x' := (if (a : Int32) ≤ (S.2.1 1 0) then 25 else 23, [some (.ref 0), some (.int a), none], [], h0, 0, 0)) rfl (Nat.le_of_ble_eq_true rfl) (Nat.le_of_ble_eq_true rfl) ?_
      refine am_if (fun hc3 => ?_) (fun hc3 => ?_)
      · rw [if_pos hc3] at hd
        refine am_steps ok_Ho_send 1 (x' := (26, [some (.ref 0), some (.int a), none], [.ref 0], h0, 0, 0)) rfl (Nat.le_of_ble_eq_true rfl) (Nat.le_of_ble_eq_true rfl) ?_
        refine hr_get ok_Ho_send rfl hR (kd := 0) (hs_k hR (a := 0) rfl) rfl (Nat.le_of_ble_eq_true rfl) (Nat.le_of_ble_eq_true rfl) (v := .ref 7) (congrArg va_rf (hR.2.2.2.2.1 (3, 0, 7) (by decide))) (pc' := 29) rfl (Nat.le_of_ble_eq_true rfl) (Nat.le_of_ble_eq_true rfl) ?_
        obtain ⟨q4, hq5, hd6⟩ := Option.bind_eq_some_iff.mp hd; clear hd; have hd := hd6; clear hd6
        refine ar_cv ok_Ho_send hk_An_clear rfl rfl (As := []) (ad := 7) (rest := []) rfl rfl (hR.ob (hs_k hR (a := 7) rfl) (Nat.le_of_ble_eq_true rfl)) (Nat.le_of_ble_eq_true rfl) (c_An_clear  S h0 hR  q4 hq5) (Nat.le_of_ble_eq_true rfl) (Nat.le_of_ble_eq_true rfl) (Nat.le_of_ble_eq_true rfl) (Nat.le_of_ble_eq_true rfl) (pc' := 32) rfl (fun r7 h9 z8 => ?_)
        obtain ⟨rfl, hR11, g12, e13⟩ := z8
        have f14 := hF.tr hF.rf g12
        show am_S _ _ _ _ _ _ _ (32, [some (.ref 0), some (.int a), none], [], h9, 0, 0) _
        refine am_steps ok_Ho_send 2 (x' := (34, [some (.ref 0), some (.int a), none], [.int 0, .ref 0], h9, 0, 0)) rfl (Nat.le_of_ble_eq_true rfl) (Nat.le_of_ble_eq_true rfl) ?_
        refine hr_put ok_Ho_send rfl hR11 (kd := 0) (hs_k hR11 (a := 0) rfl) rfl (Nat.le_of_ble_eq_true rfl) (Nat.le_of_ble_eq_true rfl) rfl (S' := (hpI q4 1 0 0)) rfl (hWT.up hR11.2.2 rfl rfl rfl) (pc' := 37) rfl (Nat.le_of_ble_eq_true rfl) (Nat.le_of_ble_eq_true rfl) (fun h15 hR16 g17 => ?_)
        have f18 := hF.tr f14 g17
        refine am_steps ok_Ho_send 1 (x' := (38, [some (.ref 0), some (.int a), none], [.ref 0], h15, 0, 0)) rfl (Nat.le_of_ble_eq_true rfl) (Nat.le_of_ble_eq_true rfl) ?_
        refine hr_get ok_Ho_send rfl hR16 (kd := 0) (hs_k hR16 (a := 0) rfl) rfl (Nat.le_of_ble_eq_true rfl) (Nat.le_of_ble_eq_true rfl) (v := .ref 2) (congrArg va_rf (hR16.2.2.2.2.1 (2, 0, 2) (by decide))) (pc' := 41) rfl (Nat.le_of_ble_eq_true rfl) (Nat.le_of_ble_eq_true rfl) ?_
        refine am_steps ok_Ho_send 1 (x' := (42, [some (.ref 0), some (.int a), none], [.int a, .ref 2], h15, 0, 0)) rfl (Nat.le_of_ble_eq_true rfl) (Nat.le_of_ble_eq_true rfl) ?_
        obtain ⟨q19, hq20, hd21⟩ := Option.bind_eq_some_iff.mp hd; clear hd; have hd := hd21; clear hd21
        refine ar_cv ok_Ho_send hk_Me_read rfl rfl (As := [.int a]) (ad := 2) (rest := []) rfl rfl (hR16.ob (hs_k hR16 (a := 2) rfl) (Nat.le_of_ble_eq_true rfl)) (Nat.le_of_ble_eq_true rfl) (c_Me_read a (hpI q4 1 0 0) h15 hR16  q19 hq20) (Nat.le_of_ble_eq_true rfl) (Nat.le_of_ble_eq_true rfl) (Nat.le_of_ble_eq_true rfl) (Nat.le_of_ble_eq_true rfl) (pc' := 45) rfl (fun r22 h24 z23 => ?_)
        obtain ⟨rfl, hR26, g27, e28⟩ := z23
        have f29 := hF.tr f18 g27
        show am_S _ _ _ _ _ _ _ (45, [some (.ref 0), some (.int a), none], [.int q19.1], h24, 0, 0) _
        refine am_steps ok_Ho_send 1 (x' := (if (q19.1 : Int32) = 0 then 62 else 48, [some (.ref 0), some (.int a), none], [], h24, 0, 0)) rfl (Nat.le_of_ble_eq_true rfl) (Nat.le_of_ble_eq_true rfl) ?_
        obtain ⟨u30, hA32, hB33⟩ := Option.bind_eq_some_iff.mp hd; clear hd
        have K31 : ∀ h' : am_H, RH u30.2 h' → hF h0 h' → hE q19.2.1 u30.2.1 → am_S am_Pr none 11 249 261 5860 2 (63, [some (.ref 0), some (.int a), none], [.int u30.1], h', 1, 10) (hQr (.int q.1) q.2 S.1 h0) := by
          have hd := hB33
          intro h34 hR35 f36 e37
          refine am_steps ok_Ho_send 3 (x' := (if (u30.1 : Int32) = 0 then 78 else 68, [some (.ref 0), some (.int a), some (.int u30.1)], [], h34, 1, 10)) rfl (Nat.le_of_ble_eq_true rfl) (Nat.le_of_ble_eq_true rfl) ?_
          refine am_if (fun hc38 => ?_) (fun hc38 => ?_)
          · rw [if_pos hc38] at hd
            refine am_steps ok_Ho_send 1 (x' := (79, [some (.ref 0), some (.int a), some (.int u30.1)], [.ref 0], h34, 1, 10)) rfl (Nat.le_of_ble_eq_true rfl) (Nat.le_of_ble_eq_true rfl) ?_
            refine hr_get ok_Ho_send rfl hR35 (kd := 0) (hs_k hR35 (a := 0) rfl) rfl (Nat.le_of_ble_eq_true rfl) (Nat.le_of_ble_eq_true rfl) (v := .ref 2) (congrArg va_rf (hR35.2.2.2.2.1 (2, 0, 2) (by decide))) (pc' := 82) rfl (Nat.le_of_ble_eq_true rfl) (Nat.le_of_ble_eq_true rfl) ?_
            refine hr_get ok_Ho_send rfl hR35 (kd := 8) (hs_k hR35 (a := 2) rfl) rfl (Nat.le_of_ble_eq_true rfl) (Nat.le_of_ble_eq_true rfl) (v := .int (u30.2.2.1 804 2)) rfl (pc' := 85) rfl (Nat.le_of_ble_eq_true rfl) (Nat.le_of_ble_eq_true rfl) ?_
            refine am_steps ok_Ho_send 2 (x' := (if ((u30.2.2.1 804 2) : Int32) = 14 then 103 else 90, [some (.ref 0), some (.int a), some (.int u30.1)], [], h34, 1, 10)) rfl (Nat.le_of_ble_eq_true rfl) (Nat.le_of_ble_eq_true rfl) ?_
            refine am_if (fun hc39 => ?_) (fun hc39 => ?_)
            · rw [if_pos hc39] at hd
              refine am_steps ok_Ho_send 1 (x' := (104, [some (.ref 0), some (.int a), some (.int u30.1)], [.ref 0], h34, 1, 10)) rfl (Nat.le_of_ble_eq_true rfl) (Nat.le_of_ble_eq_true rfl) ?_
              refine hr_get ok_Ho_send rfl hR35 (kd := 0) (hs_k hR35 (a := 0) rfl) rfl (Nat.le_of_ble_eq_true rfl) (Nat.le_of_ble_eq_true rfl) (v := .ref 20) (congrArg va_rf (hR35.2.2.2.2.1 (7, 0, 20) (by decide))) (pc' := 107) rfl (Nat.le_of_ble_eq_true rfl) (Nat.le_of_ble_eq_true rfl) ?_
              refine am_steps ok_Ho_send 1 (x' := (108, [some (.ref 0), some (.int a), some (.int u30.1)], [.ref 0, .ref 20], h34, 1, 10)) rfl (Nat.le_of_ble_eq_true rfl) (Nat.le_of_ble_eq_true rfl) ?_
              refine hr_get ok_Ho_send rfl hR35 (kd := 0) (hs_k hR35 (a := 0) rfl) rfl (Nat.le_of_ble_eq_true rfl) (Nat.le_of_ble_eq_true rfl) (v := .ref 2) (congrArg va_rf (hR35.2.2.2.2.1 (2, 0, 2) (by decide))) (pc' := 111) rfl (Nat.le_of_ble_eq_true rfl) (Nat.le_of_ble_eq_true rfl) ?_
              refine am_steps ok_Ho_send 1 (x' := (112, [some (.ref 0), some (.int a), some (.int u30.1)], [.ref 0, .ref 2, .ref 20], h34, 1, 10)) rfl (Nat.le_of_ble_eq_true rfl) (Nat.le_of_ble_eq_true rfl) ?_
              refine hr_get ok_Ho_send rfl hR35 (kd := 0) (hs_k hR35 (a := 0) rfl) rfl (Nat.le_of_ble_eq_true rfl) (Nat.le_of_ble_eq_true rfl) (v := .ref 7) (congrArg va_rf (hR35.2.2.2.2.1 (3, 0, 7) (by decide))) (pc' := 115) rfl (Nat.le_of_ble_eq_true rfl) (Nat.le_of_ble_eq_true rfl) ?_
              obtain ⟨q40, hq41, hd42⟩ := Option.bind_eq_some_iff.mp hd; clear hd; have hd := hd42; clear hd42
              refine ar_cv ok_Ho_send hk_De_carryOut rfl rfl (As := [.ref 2, .ref 7]) (ad := 20) (rest := []) rfl rfl (hR35.ob (hs_k hR35 (a := 20) rfl) (Nat.le_of_ble_eq_true rfl)) (Nat.le_of_ble_eq_true rfl) (c_De_carryOut  u30.2 h34 hR35  q40 hq41) (Nat.le_of_ble_eq_true rfl) (Nat.le_of_ble_eq_true rfl) (Nat.le_of_ble_eq_true rfl) (Nat.le_of_ble_eq_true rfl) (pc' := 118) rfl (fun r43 h45 z44 => ?_)
              obtain ⟨rfl, hR47, g48, e49⟩ := z44
              have f50 := hF.tr f36 g48
              show am_S _ _ _ _ _ _ _ (118, [some (.ref 0), some (.int a), some (.int u30.1)], [], h45, 261, 5860) _
              refine am_steps ok_Ho_send 1 (x' := (119, [some (.ref 0), some (.int a), some (.int u30.1)], [.int 1], h45, 261, 5860)) rfl (Nat.le_of_ble_eq_true rfl) (Nat.le_of_ble_eq_true rfl) ?_
              cases hd; exact am_ret ok_Ho_send rfl (Nat.le_of_ble_eq_true rfl) (Nat.le_of_ble_eq_true rfl) ⟨rfl, hR47, f50, ((((hE.rf.tr e13).tr e28).tr e37).tr e49)⟩
            · rw [if_neg hc39] at hd
              refine am_steps ok_Ho_send 1 (x' := (91, [some (.ref 0), some (.int a), some (.int u30.1)], [.ref 0], h34, 1, 10)) rfl (Nat.le_of_ble_eq_true rfl) (Nat.le_of_ble_eq_true rfl) ?_
              refine hr_get ok_Ho_send rfl hR35 (kd := 0) (hs_k hR35 (a := 0) rfl) rfl (Nat.le_of_ble_eq_true rfl) (Nat.le_of_ble_eq_true rfl) (v := .ref 9) (congrArg va_rf (hR35.2.2.2.2.1 (4, 0, 9) (by decide))) (pc' := 94) rfl (Nat.le_of_ble_eq_true rfl) (Nat.le_of_ble_eq_true rfl) ?_
              refine am_steps ok_Ho_send 1 (x' := (95, [some (.ref 0), some (.int a), some (.int u30.1)], [.int a, .ref 9], h34, 1, 10)) rfl (Nat.le_of_ble_eq_true rfl) (Nat.le_of_ble_eq_true rfl) ?_
              obtain ⟨q51, hq52, hd53⟩ := Option.bind_eq_some_iff.mp hd; clear hd; have hd := hd53; clear hd53
              refine ar_cv ok_Ho_send hk_Di_writeRecord rfl rfl (As := [.int a]) (ad := 9) (rest := []) rfl rfl (hR35.ob (hs_k hR35 (a := 9) rfl) (Nat.le_of_ble_eq_true rfl)) (Nat.le_of_ble_eq_true rfl) (c_Di_writeRecord a u30.2 h34 hR35  q51 hq52) (Nat.le_of_ble_eq_true rfl) (Nat.le_of_ble_eq_true rfl) (Nat.le_of_ble_eq_true rfl) (Nat.le_of_ble_eq_true rfl) (pc' := 98) rfl (fun r54 h56 z55 => ?_)
              obtain ⟨rfl, hR58, g59, e60⟩ := z55
              have f61 := hF.tr f36 g59
              show am_S _ _ _ _ _ _ _ (98, [some (.ref 0), some (.int a), some (.int u30.1)], [.int q51.1], h56, 1, 10) _
              refine am_steps ok_Ho_send 1 (x' := (if ¬ (q51.1 : Int32) = 0 then 103 else 101, [some (.ref 0), some (.int a), some (.int u30.1)], [], h56, 1, 10)) rfl (Nat.le_of_ble_eq_true rfl) (Nat.le_of_ble_eq_true rfl) ?_
              refine am_if (fun hc62 => ?_) (fun hc62 => ?_)
              · rw [if_pos hc62] at hd
                refine am_steps ok_Ho_send 1 (x' := (104, [some (.ref 0), some (.int a), some (.int u30.1)], [.ref 0], h56, 1, 10)) rfl (Nat.le_of_ble_eq_true rfl) (Nat.le_of_ble_eq_true rfl) ?_
                refine hr_get ok_Ho_send rfl hR58 (kd := 0) (hs_k hR58 (a := 0) rfl) rfl (Nat.le_of_ble_eq_true rfl) (Nat.le_of_ble_eq_true rfl) (v := .ref 20) (congrArg va_rf (hR58.2.2.2.2.1 (7, 0, 20) (by decide))) (pc' := 107) rfl (Nat.le_of_ble_eq_true rfl) (Nat.le_of_ble_eq_true rfl) ?_
                refine am_steps ok_Ho_send 1 (x' := (108, [some (.ref 0), some (.int a), some (.int u30.1)], [.ref 0, .ref 20], h56, 1, 10)) rfl (Nat.le_of_ble_eq_true rfl) (Nat.le_of_ble_eq_true rfl) ?_
                refine hr_get ok_Ho_send rfl hR58 (kd := 0) (hs_k hR58 (a := 0) rfl) rfl (Nat.le_of_ble_eq_true rfl) (Nat.le_of_ble_eq_true rfl) (v := .ref 2) (congrArg va_rf (hR58.2.2.2.2.1 (2, 0, 2) (by decide))) (pc' := 111) rfl (Nat.le_of_ble_eq_true rfl) (Nat.le_of_ble_eq_true rfl) ?_
                refine am_steps ok_Ho_send 1 (x' := (112, [some (.ref 0), some (.int a), some (.int u30.1)], [.ref 0, .ref 2, .ref 20], h56, 1, 10)) rfl (Nat.le_of_ble_eq_true rfl) (Nat.le_of_ble_eq_true rfl) ?_
                refine hr_get ok_Ho_send rfl hR58 (kd := 0) (hs_k hR58 (a := 0) rfl) rfl (Nat.le_of_ble_eq_true rfl) (Nat.le_of_ble_eq_true rfl) (v := .ref 7) (congrArg va_rf (hR58.2.2.2.2.1 (3, 0, 7) (by decide))) (pc' := 115) rfl (Nat.le_of_ble_eq_true rfl) (Nat.le_of_ble_eq_true rfl) ?_
                obtain ⟨q63, hq64, hd65⟩ := Option.bind_eq_some_iff.mp hd; clear hd; have hd := hd65; clear hd65
                refine ar_cv ok_Ho_send hk_De_carryOut rfl rfl (As := [.ref 2, .ref 7]) (ad := 20) (rest := []) rfl rfl (hR58.ob (hs_k hR58 (a := 20) rfl) (Nat.le_of_ble_eq_true rfl)) (Nat.le_of_ble_eq_true rfl) (c_De_carryOut  q51.2 h56 hR58  q63 hq64) (Nat.le_of_ble_eq_true rfl) (Nat.le_of_ble_eq_true rfl) (Nat.le_of_ble_eq_true rfl) (Nat.le_of_ble_eq_true rfl) (pc' := 118) rfl (fun r66 h68 z67 => ?_)
                obtain ⟨rfl, hR70, g71, e72⟩ := z67
                have f73 := hF.tr f61 g71
                show am_S _ _ _ _ _ _ _ (118, [some (.ref 0), some (.int a), some (.int u30.1)], [], h68, 261, 5860) _
                refine am_steps ok_Ho_send 1 (x' := (119, [some (.ref 0), some (.int a), some (.int u30.1)], [.int 1], h68, 261, 5860)) rfl (Nat.le_of_ble_eq_true rfl) (Nat.le_of_ble_eq_true rfl) ?_
                cases hd; exact am_ret ok_Ho_send rfl (Nat.le_of_ble_eq_true rfl) (Nat.le_of_ble_eq_true rfl) ⟨rfl, hR70, f73, (((((hE.rf.tr e13).tr e28).tr e37).tr e60).tr e72)⟩
              · rw [if_neg hc62] at hd
                refine am_steps ok_Ho_send 1 (x' := (102, [some (.ref 0), some (.int a), some (.int u30.1)], [.int 2], h56, 1, 10)) rfl (Nat.le_of_ble_eq_true rfl) (Nat.le_of_ble_eq_true rfl) ?_
                cases hd; exact am_ret ok_Ho_send rfl (Nat.le_of_ble_eq_true rfl) (Nat.le_of_ble_eq_true rfl) ⟨rfl, hR58, f61, ((((hE.rf.tr e13).tr e28).tr e37).tr e60)⟩
          · rw [if_neg hc38] at hd
            refine am_steps ok_Ho_send 1 (x' := (69, [some (.ref 0), some (.int a), some (.int u30.1)], [.ref 0], h34, 1, 10)) rfl (Nat.le_of_ble_eq_true rfl) (Nat.le_of_ble_eq_true rfl) ?_
            refine hr_get ok_Ho_send rfl hR35 (kd := 0) (hs_k hR35 (a := 0) rfl) rfl (Nat.le_of_ble_eq_true rfl) (Nat.le_of_ble_eq_true rfl) (v := .ref 7) (congrArg va_rf (hR35.2.2.2.2.1 (3, 0, 7) (by decide))) (pc' := 72) rfl (Nat.le_of_ble_eq_true rfl) (Nat.le_of_ble_eq_true rfl) ?_
            refine am_steps ok_Ho_send 1 (x' := (73, [some (.ref 0), some (.int a), some (.int u30.1)], [.int u30.1, .ref 7], h34, 1, 10)) rfl (Nat.le_of_ble_eq_true rfl) (Nat.le_of_ble_eq_true rfl) ?_
            obtain ⟨q74, hq75, hd76⟩ := Option.bind_eq_some_iff.mp hd; clear hd; have hd := hd76; clear hd76
            refine ar_cv ok_Ho_send hk_An_putVerdict rfl rfl (As := [.int u30.1]) (ad := 7) (rest := []) rfl rfl (hR35.ob (hs_k hR35 (a := 7) rfl) (Nat.le_of_ble_eq_true rfl)) (Nat.le_of_ble_eq_true rfl) (c_An_putVerdict u30.1 u30.2 h34 hR35  q74 hq75) (Nat.le_of_ble_eq_true rfl) (Nat.le_of_ble_eq_true rfl) (Nat.le_of_ble_eq_true rfl) (Nat.le_of_ble_eq_true rfl) (pc' := 76) rfl (fun r77 h79 z78 => ?_)
            obtain ⟨rfl, hR81, g82, e83⟩ := z78
            have f84 := hF.tr f36 g82
            show am_S _ _ _ _ _ _ _ (76, [some (.ref 0), some (.int a), some (.int u30.1)], [], h79, 1, 10) _
            refine am_steps ok_Ho_send 1 (x' := (77, [some (.ref 0), some (.int a), some (.int u30.1)], [.int 1], h79, 1, 10)) rfl (Nat.le_of_ble_eq_true rfl) (Nat.le_of_ble_eq_true rfl) ?_
            cases hd; exact am_ret ok_Ho_send rfl (Nat.le_of_ble_eq_true rfl) (Nat.le_of_ble_eq_true rfl) ⟨rfl, hR81, f84, ((((hE.rf.tr e13).tr e28).tr e37).tr e83)⟩
        clear hB33; have hd := hA32; clear hA32
        refine am_if (fun hc85 => ?_) (fun hc85 => ?_)
        · rw [if_pos hc85] at hd
          refine am_steps ok_Ho_send 1 (x' := (63, [some (.ref 0), some (.int a), none], [.int 1], h24, 0, 0)) rfl (Nat.le_of_ble_eq_true rfl) (Nat.le_of_ble_eq_true rfl) ?_
          refine am_wide (k' := 1) (n' := 10) (Nat.le_of_ble_eq_true rfl) (Nat.le_of_ble_eq_true rfl) ?_
          cases hd; exact K31 h24 hR26 f29 hE.rf
        · rw [if_neg hc85] at hd
          refine am_steps ok_Ho_send 1 (x' := (49, [some (.ref 0), some (.int a), none], [.ref 0], h24, 0, 0)) rfl (Nat.le_of_ble_eq_true rfl) (Nat.le_of_ble_eq_true rfl) ?_
          refine hr_get ok_Ho_send rfl hR26 (kd := 0) (hs_k hR26 (a := 0) rfl) rfl (Nat.le_of_ble_eq_true rfl) (Nat.le_of_ble_eq_true rfl) (v := .ref 20) (congrArg va_rf (hR26.2.2.2.2.1 (7, 0, 20) (by decide))) (pc' := 52) rfl (Nat.le_of_ble_eq_true rfl) (Nat.le_of_ble_eq_true rfl) ?_
          refine am_steps ok_Ho_send 1 (x' := (53, [some (.ref 0), some (.int a), none], [.ref 0, .ref 20], h24, 0, 0)) rfl (Nat.le_of_ble_eq_true rfl) (Nat.le_of_ble_eq_true rfl) ?_
          refine hr_get ok_Ho_send rfl hR26 (kd := 0) (hs_k hR26 (a := 0) rfl) rfl (Nat.le_of_ble_eq_true rfl) (Nat.le_of_ble_eq_true rfl) (v := .ref 2) (congrArg va_rf (hR26.2.2.2.2.1 (2, 0, 2) (by decide))) (pc' := 56) rfl (Nat.le_of_ble_eq_true rfl) (Nat.le_of_ble_eq_true rfl) ?_
          obtain ⟨q86, hq87, hd88⟩ := Option.bind_eq_some_iff.mp hd; clear hd; have hd := hd88; clear hd88
          refine ar_cv ok_Ho_send hk_De_judge rfl rfl (As := [.ref 2]) (ad := 20) (rest := []) rfl rfl (hR26.ob (hs_k hR26 (a := 20) rfl) (Nat.le_of_ble_eq_true rfl)) (Nat.le_of_ble_eq_true rfl) (c_De_judge  q19.2 h24 hR26  q86 hq87) (Nat.le_of_ble_eq_true rfl) (Nat.le_of_ble_eq_true rfl) (Nat.le_of_ble_eq_true rfl) (Nat.le_of_ble_eq_true rfl) (pc' := 59) rfl (fun r89 h91 z90 => ?_)
          obtain ⟨rfl, hR93, g94, e95⟩ := z90
          have f96 := hF.tr f29 g94
          show am_S _ _ _ _ _ _ _ (59, [some (.ref 0), some (.int a), none], [.int q86.1], h91, 1, 10) _
          refine am_steps ok_Ho_send 1 (x' := (63, [some (.ref 0), some (.int a), none], [.int q86.1], h91, 1, 10)) rfl (Nat.le_of_ble_eq_true rfl) (Nat.le_of_ble_eq_true rfl) ?_
          cases hd; exact K31 h91 hR93 f96 e95
      · rw [if_neg hc3] at hd
        refine am_steps ok_Ho_send 1 (x' := (24, [some (.ref 0), some (.int a), none], [.int 0], h0, 0, 0)) rfl (Nat.le_of_ble_eq_true rfl) (Nat.le_of_ble_eq_true rfl) ?_
        cases hd; exact am_ret ok_Ho_send rfl (Nat.le_of_ble_eq_true rfl) (Nat.le_of_ble_eq_true rfl) ⟨rfl, hR, hF.rf, hE.rf⟩
def h_Po_beginDay (a : Nat) (S : hS) : Option (hS) := some (hpI (hpL (hpL (hpL S 1004 a (S.2.2.1 1001 a)) 1005 a 0) 1006 a 0) 1007 a 0)
set_option maxHeartbeats 4000000 in
set_option maxRecDepth 100000 in
theorem c_Po_beginDay (a : Nat) (S : hS) (h0 : am_H) (hR : RH S h0) (ha : hK S.1 a 10) (q : hS) (hd : h_Po_beginDay a S = some q) : am_Me am_Pr none 0 0 0 0 207 [.ref a] h0 (hQv q S.1 h0) := by
  refine am_enter (d := hd_Po_beginDay) rfl (by decide +kernel) (Nat.le_of_ble_eq_true rfl) ?_
  show am_S _ _ _ _ _ _ _ (0, [some (.ref a)], [], h0, 0, 0) _
  unfold h_Po_beginDay at hd
  refine am_steps ok_Po_beginDay 2 (x' := (2, [some (.ref a)], [.ref a, .ref a], h0, 0, 0)) rfl (Nat.le_of_ble_eq_true rfl) (Nat.le_of_ble_eq_true rfl) ?_
  refine hr_get ok_Po_beginDay rfl hR (kd := 10) ha rfl (Nat.le_of_ble_eq_true rfl) (Nat.le_of_ble_eq_true rfl) (v := .long (S.2.2.1 1001 a)) rfl (pc' := 5) rfl (Nat.le_of_ble_eq_true rfl) (Nat.le_of_ble_eq_true rfl) ?_
  refine hr_put ok_Po_beginDay rfl hR (kd := 10) ha rfl (Nat.le_of_ble_eq_true rfl) (Nat.le_of_ble_eq_true rfl) rfl (S' := (hpL S 1004 a (S.2.2.1 1001 a))) rfl (hWT.up hR.2.2 rfl rfl rfl) (pc' := 8) rfl (Nat.le_of_ble_eq_true rfl) (Nat.le_of_ble_eq_true rfl) (fun h1 hR2 g3 => ?_)
  have f4 := hF.tr hF.rf g3
  refine am_steps ok_Po_beginDay 2 (x' := (10, [some (.ref a)], [.long 0, .ref a], h1, 0, 0)) rfl (Nat.le_of_ble_eq_true rfl) (Nat.le_of_ble_eq_true rfl) ?_
  refine hr_put ok_Po_beginDay rfl hR2 (kd := 10) ha rfl (Nat.le_of_ble_eq_true rfl) (Nat.le_of_ble_eq_true rfl) rfl (S' := (hpL (hpL S 1004 a (S.2.2.1 1001 a)) 1005 a 0)) rfl (hWT.up hR2.2.2 rfl rfl rfl) (pc' := 13) rfl (Nat.le_of_ble_eq_true rfl) (Nat.le_of_ble_eq_true rfl) (fun h5 hR6 g7 => ?_)
  have f8 := hF.tr f4 g7
  refine am_steps ok_Po_beginDay 2 (x' := (15, [some (.ref a)], [.long 0, .ref a], h5, 0, 0)) rfl (Nat.le_of_ble_eq_true rfl) (Nat.le_of_ble_eq_true rfl) ?_
  refine hr_put ok_Po_beginDay rfl hR6 (kd := 10) ha rfl (Nat.le_of_ble_eq_true rfl) (Nat.le_of_ble_eq_true rfl) rfl (S' := (hpL (hpL (hpL S 1004 a (S.2.2.1 1001 a)) 1005 a 0) 1006 a 0)) rfl (hWT.up hR6.2.2 rfl rfl rfl) (pc' := 18) rfl (Nat.le_of_ble_eq_true rfl) (Nat.le_of_ble_eq_true rfl) (fun h9 hR10 g11 => ?_)
  have f12 := hF.tr f8 g11
  refine am_steps ok_Po_beginDay 2 (x' := (20, [some (.ref a)], [.int 0, .ref a], h9, 0, 0)) rfl (Nat.le_of_ble_eq_true rfl) (Nat.le_of_ble_eq_true rfl) ?_
  refine hr_put ok_Po_beginDay rfl hR10 (kd := 10) ha rfl (Nat.le_of_ble_eq_true rfl) (Nat.le_of_ble_eq_true rfl) rfl (S' := (hpI (hpL (hpL (hpL S 1004 a (S.2.2.1 1001 a)) 1005 a 0) 1006 a 0) 1007 a 0)) rfl (hWT.up hR10.2.2 rfl rfl rfl) (pc' := 23) rfl (Nat.le_of_ble_eq_true rfl) (Nat.le_of_ble_eq_true rfl) (fun h13 hR14 g15 => ?_)
  have f16 := hF.tr f12 g15
  cases hd; exact am_ret ok_Po_beginDay rfl (Nat.le_of_ble_eq_true rfl) (Nat.le_of_ble_eq_true rfl) ⟨rfl, hR14, f16, hE.rf⟩
