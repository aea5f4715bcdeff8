/-! Methods of the class as functions of its state. -/
def hl_In_addToNet_3 : Nat → Nat → Nat → Int64 → Int32 → hS → Option (hS)
  | 0, _, _, _, _, _ => none
  | fu + 1, v0, v1, v2, v4, s => if ((s.2.1 710 v0) : Int32) ≤ v4 then (((s.2.2.2.1 708 v0)).bind fun b2 => (if ((Int32.ofNat (hln s.1 b2)) : Int32) ≤ (s.2.1 710 v0) then (some s) else ((am_ix (s.2.1 710 v0) (hln s.1 b2)).bind fun j7 => (((s.2.2.2.1 709 v0)).bind fun b14 => ((am_ix (s.2.1 710 v0) (hln s.1 b14)).bind fun j18 => (some (hpI (hpB (hpQ s b2 j7 (some v1)) b14 j18 v2) 710 v0 ((s.2.1 710 v0) + 1)))))))) else (((s.2.2.2.1 708 v0)).bind fun b29 => ((am_ix v4 (hln s.1 b29)).bind fun j33 => (((s.2.2.2.2.2.2 b29 j33)).bind fun b36 => (if (some b36) = (some v1) then (((s.2.2.2.1 709 v0)).bind fun b41 => ((am_ix v4 (hln s.1 b41)).bind fun j45 => (some (hpB s b41 j45 ((s.2.2.2.2.2.1 b41 j45) + v2))))) else (hl_In_addToNet_3 fu v0 v1 v2 (v4 + 1) s)))))
set_option maxHeartbeats 4000000 in
set_option maxRecDepth 100000 in
theorem Lc_In_addToNet_3 (sh0 : List (Nat × Nat)) (h0 : am_H) : ∀ (fu : Nat) (v0 : Nat) (v1 : Nat) (v2 : Int64) (v4 : Int32) (s : hS) (h : am_H), RH s h → hF h0 h → hE sh0 s.1 → (hK s.1 v0 7) → (hK s.1 v1 10) → ∀ q : hS, hl_In_addToNet_3 fu v0 v1 v2 v4 s = some q → am_S am_Pr none 0 0 0 0 173 (3, [some (.ref v0), some (.ref v1), some (.long v2), none, some (.int v4)], [], h, 0, 0) (hQv q sh0 h0) := by
  intro fu
  induction fu with
  | zero => intro v0 v1 v2 v4 s h hR f he hv0 hv1 q hd; cases hd
  | succ fu ih =>
    intro v0 v1 v2 v4 s h hR f he hv0 hv1 q hd
    unfold hl_In_addToNet_3 at hd
    refine am_steps ok_In_addToNet 2 (x' := (6, [some (.ref v0), some (.ref v1), some (.long v2), none, some (.int v4)], [.ref v0, .int v4], h, 0, 0)) rfl (Nat.le_of_ble_eq_true rfl) (Nat.le_of_ble_eq_true rfl) ?_
    refine hr_get ok_In_addToNet rfl hR (kd := 7) hv0 rfl (Nat.le_of_ble_eq_true rfl) (Nat.le_of_ble_eq_true rfl) (v := .int (s.2.1 710 v0)) rfl (pc' := 9) rfl (Nat.le_of_ble_eq_true rfl) (Nat.le_of_ble_eq_true rfl) ?_
    refine am_steps ok_In_addToNet 1 (x' := (if ((s.2.1 710 v0) : Int32) ≤ v4 then 41 else 12, [some (.ref v0), some (.ref v1), some (.long v2), none, some (.int v4)], [], h, 0, 0)) rfl (Nat.le_of_ble_eq_true rfl) (Nat.le_of_ble_eq_true rfl) ?_
    refine am_if (fun hc1 => ?_) (fun hc1 => ?_)
    · rw [if_pos hc1] at hd
      refine am_steps ok_In_addToNet 1 (x' := (42, [some (.ref v0), some (.ref v1), some (.long v2), none, some (.int v4)], [.ref v0], h, 0, 0)) rfl (Nat.le_of_ble_eq_true rfl) (Nat.le_of_ble_eq_true rfl) ?_
      refine hr_get ok_In_addToNet rfl hR (kd := 7) hv0 rfl (Nat.le_of_ble_eq_true rfl) (Nat.le_of_ble_eq_true rfl) (v := .int (s.2.1 710 v0)) rfl (pc' := 45) rfl (Nat.le_of_ble_eq_true rfl) (Nat.le_of_ble_eq_true rfl) ?_
      refine am_steps ok_In_addToNet 1 (x' := (46, [some (.ref v0), some (.ref v1), some (.long v2), none, some (.int v4)], [.ref v0, .int (s.2.1 710 v0)], h, 0, 0)) rfl (Nat.le_of_ble_eq_true rfl) (Nat.le_of_ble_eq_true rfl) ?_
      refine hr_get ok_In_addToNet rfl hR (kd := 7) hv0 rfl (Nat.le_of_ble_eq_true rfl) (Nat.le_of_ble_eq_true rfl) (v := va_rf (s.2.2.2.1 708 v0)) rfl (pc' := 49) rfl (Nat.le_of_ble_eq_true rfl) (Nat.le_of_ble_eq_true rfl) ?_
      obtain ⟨b2, hb3, hd4⟩ := Option.bind_eq_some_iff.mp hd; clear hd; have hd := hd4; clear hd4
      have hk5 := (fun b hb => hR.2.2.1 708 _ b hb) b2 hb3
      rw [hb3]
      show am_S _ _ _ _ _ _ _ (49, [some (.ref v0), some (.ref v1), some (.long v2), none, some (.int v4)], [.ref b2, .int (s.2.1 710 v0)], h, 0, 0) _
      refine hr_alen ok_In_addToNet rfl hR (kd := 26) hk5 (by decide) (w := (Int32.ofNat (hln s.1 b2))) rfl (pc' := 50) rfl (Nat.le_of_ble_eq_true rfl) (Nat.le_of_ble_eq_true rfl) ?_
      refine am_steps ok_In_addToNet 1 (x' := (if ((Int32.ofNat (hln s.1 b2)) : Int32) ≤ (s.2.1 710 v0) then 83 else 53, [some (.ref v0), some (.ref v1), some (.long v2), none, some (.int v4)], [], h, 0, 0)) rfl (Nat.le_of_ble_eq_true rfl) (Nat.le_of_ble_eq_true rfl) ?_
      refine am_if (fun hc6 => ?_) (fun hc6 => ?_)
      · rw [if_pos hc6] at hd
        cases hd; exact am_ret ok_In_addToNet rfl (Nat.le_of_ble_eq_true rfl) (Nat.le_of_ble_eq_true rfl) ⟨rfl, hR, f, he⟩
      · rw [if_neg hc6] at hd
        refine am_steps ok_In_addToNet 1 (x' := (54, [some (.ref v0), some (.ref v1), some (.long v2), none, some (.int v4)], [.ref v0], h, 0, 0)) rfl (Nat.le_of_ble_eq_true rfl) (Nat.le_of_ble_eq_true rfl) ?_
        refine hr_get ok_In_addToNet rfl hR (kd := 7) hv0 rfl (Nat.le_of_ble_eq_true rfl) (Nat.le_of_ble_eq_true rfl) (v := .ref b2) (congrArg va_rf hb3) (pc' := 57) rfl (Nat.le_of_ble_eq_true rfl) (Nat.le_of_ble_eq_true rfl) ?_
        refine am_steps ok_In_addToNet 1 (x' := (58, [some (.ref v0), some (.ref v1), some (.long v2), none, some (.int v4)], [.ref v0, .ref b2], h, 0, 0)) rfl (Nat.le_of_ble_eq_true rfl) (Nat.le_of_ble_eq_true rfl) ?_
        refine hr_get ok_In_addToNet rfl hR (kd := 7) hv0 rfl (Nat.le_of_ble_eq_true rfl) (Nat.le_of_ble_eq_true rfl) (v := .int (s.2.1 710 v0)) rfl (pc' := 61) rfl (Nat.le_of_ble_eq_true rfl) (Nat.le_of_ble_eq_true rfl) ?_
        refine am_steps ok_In_addToNet 1 (x' := (62, [some (.ref v0), some (.ref v1), some (.long v2), none, some (.int v4)], [.ref v1, .int (s.2.1 710 v0), .ref b2], h, 0, 0)) rfl (Nat.le_of_ble_eq_true rfl) (Nat.le_of_ble_eq_true rfl) ?_
        obtain ⟨j7, hx8, hd9⟩ := Option.bind_eq_some_iff.mp hd; clear hd; have hd := hd9; clear hd9
        refine hr_aast ok_In_addToNet rfl hR (kd := 26) hk5 (by decide) rfl hx8 (o := (some v1)) (fun _ hz => by cases hz; exact hv1) (pc' := 63) rfl (Nat.le_of_ble_eq_true rfl) (Nat.le_of_ble_eq_true rfl) (fun h10 hR11 g12 => ?_)
        have f13 := hF.tr f g12
        refine am_steps ok_In_addToNet 1 (x' := (64, [some (.ref v0), some (.ref v1), some (.long v2), none, some (.int v4)], [.ref v0], h10, 0, 0)) rfl (Nat.le_of_ble_eq_true rfl) (Nat.le_of_ble_eq_true rfl) ?_
        refine hr_get ok_In_addToNet rfl hR11 (kd := 7) hv0 rfl (Nat.le_of_ble_eq_true rfl) (Nat.le_of_ble_eq_true rfl) (v := va_rf (s.2.2.2.1 709 v0)) rfl (pc' := 67) rfl (Nat.le_of_ble_eq_true rfl) (Nat.le_of_ble_eq_true rfl) ?_
        refine am_steps ok_In_addToNet 1 (x' := (68, [some (.ref v0), some (.ref v1), some (.long v2), none, some (.int v4)], [.ref v0, va_rf (s.2.2.2.1 709 v0)], h10, 0, 0)) rfl (Nat.le_of_ble_eq_true rfl) (Nat.le_of_ble_eq_true rfl) ?_
        refine hr_get ok_In_addToNet rfl hR11 (kd := 7) hv0 rfl (Nat.le_of_ble_eq_true rfl) (Nat.le_of_ble_eq_true rfl) (v := .int (s.2.1 710 v0)) rfl (pc' := 71) rfl (Nat.le_of_ble_eq_true rfl) (Nat.le_of_ble_eq_true rfl) ?_
        refine am_steps ok_In_addToNet 1 (x' := (72, [some (.ref v0), some (.ref v1), some (.long v2), none, some (.int v4)], [.long v2, .int (s.2.1 710 v0), va_rf (s.2.2.2.1 709 v0)], h10, 0, 0)) rfl (Nat.le_of_ble_eq_true rfl) (Nat.le_of_ble_eq_true rfl) ?_
        obtain ⟨b14, hb15, hd16⟩ := Option.bind_eq_some_iff.mp hd; clear hd; have hd := hd16; clear hd16
        have hk17 := (fun b hb => hR11.2.2.1 709 _ b hb) b14 hb15
        rw [hb15]
        show am_S _ _ _ _ _ _ _ (72, [some (.ref v0), some (.ref v1), some (.long v2), none, some (.int v4)], [.long v2, .int (s.2.1 710 v0), .ref b14], h10, 0, 0) _
        obtain ⟨j18, hx19, hd20⟩ := Option.bind_eq_some_iff.mp hd; clear hd; have hd := hd20; clear hd20
        refine hr_last ok_In_addToNet rfl hR11 hk17 rfl hx19 (pc' := 73) rfl (Nat.le_of_ble_eq_true rfl) (Nat.le_of_ble_eq_true rfl) (fun h21 hR22 g23 => ?_)
        have f24 := hF.tr f13 g23
        refine am_steps ok_In_addToNet 2 (x' := (75, [some (.ref v0), some (.ref v1), some (.long v2), none, some (.int v4)], [.ref v0, .ref v0], h21, 0, 0)) rfl (Nat.le_of_ble_eq_true rfl) (Nat.le_of_ble_eq_true rfl) ?_
        refine hr_get ok_In_addToNet rfl hR22 (kd := 7) hv0 rfl (Nat.le_of_ble_eq_true rfl) (Nat.le_of_ble_eq_true rfl) (v := .int (s.2.1 710 v0)) rfl (pc' := 78) rfl (Nat.le_of_ble_eq_true rfl) (Nat.le_of_ble_eq_true rfl) ?_
        refine am_steps ok_In_addToNet 2 (x' := (80, [some (.ref v0), some (.ref v1), some (.long v2), none, some (.int v4)], [.int ((s.2.1 710 v0) + 1), .ref v0], h21, 0, 0)) rfl (Nat.le_of_ble_eq_true rfl) (Nat.le_of_ble_eq_true rfl) ?_
        refine hr_put ok_In_addToNet rfl hR22 (kd := 7) hv0 rfl (Nat.le_of_ble_eq_true rfl) (Nat.le_of_ble_eq_true rfl) rfl (S' := (hpI (hpB (hpQ s b2 j7 (some v1)) b14 j18 v2) 710 v0 ((s.2.1 710 v0) + 1))) rfl (hWT.up hR22.2.2 rfl rfl rfl) (pc' := 83) rfl (Nat.le_of_ble_eq_true rfl) (Nat.le_of_ble_eq_true rfl) (fun h25 hR26 g27 => ?_)
        have f28 := hF.tr f24 g27
        cases hd; exact am_ret ok_In_addToNet rfl (Nat.le_of_ble_eq_true rfl) (Nat.le_of_ble_eq_true rfl) ⟨rfl, hR26, f28, he⟩
    · rw [if_neg hc1] at hd
      refine am_steps ok_In_addToNet 1 (x' := (13, [some (.ref v0), some (.ref v1), some (.long v2), none, some (.int v4)], [.ref v0], h, 0, 0)) rfl (Nat.le_of_ble_eq_true rfl) (Nat.le_of_ble_eq_true rfl) ?_
      refine hr_get ok_In_addToNet rfl hR (kd := 7) hv0 rfl (Nat.le_of_ble_eq_true rfl) (Nat.le_of_ble_eq_true rfl) (v := va_rf (s.2.2.2.1 708 v0)) rfl (pc' := 16) rfl (Nat.le_of_ble_eq_true rfl) (Nat.le_of_ble_eq_true rfl) ?_
      refine am_steps ok_In_addToNet 1 (x' := (18, [some (.ref v0), some (.ref v1), some (.long v2), none, some (.int v4)], [.int v4, va_rf (s.2.2.2.1 708 v0)], h, 0, 0)) rfl (Nat.le_of_ble_eq_true rfl) (Nat.le_of_ble_eq_true rfl) ?_
      obtain ⟨b29, hb30, hd31⟩ := Option.bind_eq_some_iff.mp hd; clear hd; have hd := hd31; clear hd31
      have hk32 := (fun b hb => hR.2.2.1 708 _ b hb) b29 hb30
      rw [hb30]
      show am_S _ _ _ _ _ _ _ (18, [some (.ref v0), some (.ref v1), some (.long v2), none, some (.int v4)], [.int v4, .ref b29], h, 0, 0) _
      obtain ⟨j33, hx34, hd35⟩ := Option.bind_eq_some_iff.mp hd; clear hd; have hd := hd35; clear hd35
      refine hr_aald ok_In_addToNet rfl hR (kd := 26) hk32 (by decide) rfl hx34 (pc' := 19) rfl (Nat.le_of_ble_eq_true rfl) (Nat.le_of_ble_eq_true rfl) ?_
      refine am_steps ok_In_addToNet 1 (x' := (20, [some (.ref v0), some (.ref v1), some (.long v2), none, some (.int v4)], [.ref v1, va_rf (s.2.2.2.2.2.2 b29 j33)], h, 0, 0)) rfl (Nat.le_of_ble_eq_true rfl) (Nat.le_of_ble_eq_true rfl) ?_
      obtain ⟨b36, hb37, hd38⟩ := Option.bind_eq_some_iff.mp hd; clear hd; have hd := hd38; clear hd38
      have hk39 := (fun b hb => hR.2.2.2.1 _ _ (hK.ln hk32) _ b hb) b36 hb37
      rw [hb37]
      show am_S _ _ _ _ _ _ _ (20, [some (.ref v0), some (.ref v1), some (.long v2), none, some (.int v4)], [.ref v1, .ref b36], h, 0, 0) _
      refine hr_acne ok_In_addToNet rfl hR (o := (some v1)) (w := (some b36)) (hs_bd hR (kd := 10) (fun _ hz => by cases hz; exact hv1)) (hs_bd hR (kd := 10) (fun _ hz => by cases hz; exact hk39)) (pc' := 23) rfl ?_
      refine am_if (fun hc40 => ?_) (fun hc40 => ?_)
      · rw [if_pos hc40] at hd
        refine am_steps ok_In_addToNet 1 (x' := (24, [some (.ref v0), some (.ref v1), some (.long v2), none, some (.int v4)], [.ref v0], h, 0, 0)) rfl (Nat.le_of_ble_eq_true rfl) (Nat.le_of_ble_eq_true rfl) ?_
        refine hr_get ok_In_addToNet rfl hR (kd := 7) hv0 rfl (Nat.le_of_ble_eq_true rfl) (Nat.le_of_ble_eq_true rfl) (v := va_rf (s.2.2.2.1 709 v0)) rfl (pc' := 27) rfl (Nat.le_of_ble_eq_true rfl) (Nat.le_of_ble_eq_true rfl) ?_
        refine am_steps ok_In_addToNet 1 (x' := (29, [some (.ref v0), some (.ref v1), some (.long v2), none, some (.int v4)], [.int v4, va_rf (s.2.2.2.1 709 v0)], h, 0, 0)) rfl (Nat.le_of_ble_eq_true rfl) (Nat.le_of_ble_eq_true rfl) ?_
        obtain ⟨b41, hb42, hd43⟩ := Option.bind_eq_some_iff.mp hd; clear hd; have hd := hd43; clear hd43
        have hk44 := (fun b hb => hR.2.2.1 709 _ b hb) b41 hb42
        rw [hb42]
        show am_S _ _ _ _ _ _ _ (29, [some (.ref v0), some (.ref v1), some (.long v2), none, some (.int v4)], [.int v4, .ref b41], h, 0, 0) _
        refine am_steps ok_In_addToNet 1 (x' := (30, [some (.ref v0), some (.ref v1), some (.long v2), none, some (.int v4)], [.int v4, .ref b41, .int v4, .ref b41], h, 0, 0)) rfl (Nat.le_of_ble_eq_true rfl) (Nat.le_of_ble_eq_true rfl) ?_
        obtain ⟨j45, hx46, hd47⟩ := Option.bind_eq_some_iff.mp hd; clear hd; have hd := hd47; clear hd47
        refine hr_lald ok_In_addToNet rfl hR hk44 rfl hx46 (pc' := 31) rfl (Nat.le_of_ble_eq_true rfl) (Nat.le_of_ble_eq_true rfl) ?_
        refine am_steps ok_In_addToNet 2 (x' := (33, [some (.ref v0), some (.ref v1), some (.long v2), none, some (.int v4)], [.long ((s.2.2.2.2.2.1 b41 j45) + v2), .int v4, .ref b41], h, 0, 0)) rfl (Nat.le_of_ble_eq_true rfl) (Nat.le_of_ble_eq_true rfl) ?_
        refine hr_last ok_In_addToNet rfl hR hk44 rfl hx46 (pc' := 34) rfl (Nat.le_of_ble_eq_true rfl) (Nat.le_of_ble_eq_true rfl) (fun h48 hR49 g50 => ?_)
        have f51 := hF.tr f g50
        cases hd; exact am_ret ok_In_addToNet rfl (Nat.le_of_ble_eq_true rfl) (Nat.le_of_ble_eq_true rfl) ⟨rfl, hR49, f51, he⟩
      · rw [if_neg hc40] at hd
        refine am_steps ok_In_addToNet 2 (x' := (3, [some (.ref v0), some (.ref v1), some (.long v2), none, some (.int (v4 + 1))], [], h, 0, 0)) rfl (Nat.le_of_ble_eq_true rfl) (Nat.le_of_ble_eq_true rfl) ?_
        exact ih v0 v1 v2 (v4 + 1) s h hR f he hv0 hv1 q hd
def h_In_addToNet (a : Nat) (b : Nat) (c : Int64) (S : hS) : Option (hS) := hl_In_addToNet_3 100000 a b c 0 S
set_option maxHeartbeats 4000000 in
set_option maxRecDepth 100000 in
theorem c_In_addToNet (a : Nat) (b : Nat) (c : Int64) (S : hS) (h0 : am_H) (hR : RH S h0) (ha : hK S.1 a 7) (hb : hK S.1 b 10) (q : hS) (hd : h_In_addToNet a b c S = some q) : am_Me am_Pr none 0 0 0 0 173 [.ref a, .ref b, .long c] h0 (hQv q S.1 h0) := by
  refine am_enter (d := hd_In_addToNet) rfl (by decide +kernel) (Nat.le_of_ble_eq_true rfl) ?_
  show am_S _ _ _ _ _ _ _ (0, [some (.ref a), some (.ref b), some (.long c), none, none], [], h0, 0, 0) _
  unfold h_In_addToNet at hd
  refine am_steps ok_In_addToNet 2 (x' := (3, [some (.ref a), some (.ref b), some (.long c), none, some (.int 0)], [], h0, 0, 0)) rfl (Nat.le_of_ble_eq_true rfl) (Nat.le_of_ble_eq_true rfl) ?_
  exact Lc_In_addToNet_3 S.1 h0 100000 a b c 0 S h0 hR hF.rf hE.rf ha hb q hd
def h_Bo_room (a : Int32) (b : Int32) (S : hS) : Option (Nat × hS) := (h_Bo_findRoom a b S).bind fun q1 => ((if q1 = none then ((hs_al S).bind fun a23 => ((h_Po_init a23 b (hNew S 10 0)).bind fun q32 => ((am_ix a 256).bind fun j43 => (((q32.2.2.2.2.2.2 11 j43)).bind fun b46 => (((q32.2.2.2.1 903 b46)).bind fun b50 => ((h_AL13_add2 b50 a23 q32).bind fun q54 => (some ((some a23), q54.2)))))))) else (some (q1, S))).bind fun (u9 : Option Nat × hS) => ((u9.1).bind fun b18 => (some (b18, u9.2))))
set_option maxHeartbeats 4000000 in
set_option maxRecDepth 100000 in
theorem c_Bo_room (a : Int32) (b : Int32) (S : hS) (h0 : am_H) (hR : RH S h0)  (q : Nat × hS) (hd : h_Bo_room a b S = some q) : am_Me am_Pr none 7 152 2 410 116 [.ref 10, .int a, .int b] h0 (hQo (.ref q.1) (some q.1) 10 q.2 S.1 h0) := by
  refine am_enter (d := hd_Bo_room) rfl (by decide +kernel) (Nat.le_of_ble_eq_true rfl) ?_
  show am_S _ _ _ _ _ _ _ (0, [some (.ref 10), some (.int a), some (.int b), none], [], h0, 0, 0) _
  unfold h_Bo_room at hd
  refine am_steps ok_Bo_room 3 (x' := (3, [some (.ref 10), some (.int a), some (.int b), none], [.int b, .int a, .ref 10], h0, 0, 0)) rfl (Nat.le_of_ble_eq_true rfl) (Nat.le_of_ble_eq_true rfl) ?_
  obtain ⟨q1, hq2, hd3⟩ := Option.bind_eq_some_iff.mp hd; clear hd; have hd := hd3; clear hd3
  refine ar_cv ok_Bo_room hk_Bo_findRoom rfl rfl (As := [.int a, .int b]) (ad := 10) (rest := []) rfl rfl (hR.ob (hs_k hR (a := 10) rfl) (Nat.le_of_ble_eq_true rfl)) (Nat.le_of_ble_eq_true rfl) (c_Bo_findRoom a b S h0 hR  q1 hq2) (Nat.le_of_ble_eq_true rfl) (Nat.le_of_ble_eq_true rfl) (Nat.le_of_ble_eq_true rfl) (Nat.le_of_ble_eq_true rfl) (pc' := 6) rfl (fun r4 h6 z5 => ?_)
  obtain ⟨rfl, z8, hk7⟩ := z5; rw [z8]
  show am_S _ _ _ _ _ _ _ (6, [some (.ref 10), some (.int a), some (.int b), none], [va_rf q1], h0, 0, 0) _
  refine hr_astoren ok_Bo_room rfl (Nat.le_of_ble_eq_true rfl) (lo' := [some (.ref 10), some (.int a), some (.int b), some (va_rf q1)]) rfl (pc' := 7) rfl (Nat.le_of_ble_eq_true rfl) (Nat.le_of_ble_eq_true rfl) ?_
  refine hr_aloadn ok_Bo_room rfl rfl (pc' := 8) rfl (Nat.le_of_ble_eq_true rfl) (Nat.le_of_ble_eq_true rfl) ?_
  refine hr_ifnon ok_Bo_room rfl (pc' := 11) rfl (Nat.le_of_ble_eq_true rfl) (Nat.le_of_ble_eq_true rfl) ?_
  obtain ⟨u9, hA12, hB13⟩ := Option.bind_eq_some_iff.mp hd; clear hd
  have K11 : ∀ h' : am_H, RH u9.2 h' → hF h0 h' → hE S.1 u9.2.1 → (∀ b, u9.1 = some b → hK u9.2.1 b 10) → am_S am_Pr none 7 152 2 410 116 (34, [none, none, none, some (va_rf u9.1)], [], h', 2, 410) (hQo (.ref q.1) (some q.1) 10 q.2 S.1 h0) := by
    have hd := hB13
    intro h14 hR15 f16 e17 hk10
    refine hr_aloadn ok_Bo_room rfl rfl (pc' := 35) rfl (Nat.le_of_ble_eq_true rfl) (Nat.le_of_ble_eq_true rfl) ?_
    obtain ⟨b18, hb19, hd20⟩ := Option.bind_eq_some_iff.mp hd; clear hd; have hd := hd20; clear hd20
    have hk21 := hk10 b18 hb19
    rw [hb19]
    show am_S _ _ _ _ _ _ _ (35, [none, none, none, some (.ref b18)], [.ref b18], h14, 2, 410) _
    cases hd; exact am_ret ok_Bo_room rfl (Nat.le_of_ble_eq_true rfl) (Nat.le_of_ble_eq_true rfl) ⟨rfl, (fun _ hz => by cases hz; exact hk21), hR15, f16, (hE.rf.tr e17)⟩
  clear hB13; have hd := hA12; clear hA12
  refine am_if (fun hc22 => ?_) (fun hc22 => ?_)
  · rw [if_pos hc22] at hd
    obtain ⟨a23, ha24, hd25⟩ := Option.bind_eq_some_iff.mp hd; clear hd; have hd := hd25; clear hd25
    refine hr_new ok_Bo_room rfl hR (kd := 10) rfl (Nat.le_of_ble_eq_true rfl) (Nat.le_of_ble_eq_true rfl) (hs_al1 ha24) (hs_al2 ha24) (pc' := 14) rfl (k' := 1) rfl (n' := 10) rfl (Nat.le_of_ble_eq_true rfl) (Nat.le_of_ble_eq_true rfl) (fun h26 hR27 g28 => ?_)
    have f29 := hF.tr hF.rf g28
    have e30 := hNew_E S 10 0
    have hk31 := hs_al3 ha24 (hNew_K S 10 0)
    refine am_steps ok_Bo_room 2 (x' := (16, [some (.ref 10), some (.int a), some (.int b), some (va_rf q1)], [.int b, .ref a23, .ref a23], h26, 1, 10)) rfl (Nat.le_of_ble_eq_true rfl) (Nat.le_of_ble_eq_true rfl) ?_
    obtain ⟨q32, hq33, hd34⟩ := Option.bind_eq_some_iff.mp hd; clear hd; have hd := hd34; clear hd34
    refine am_call ok_Bo_room hk_Po_init rfl (args' := [.ref a23, .int b]) (rest := [.ref a23]) rfl (c_Po_init a23 b (hNew S 10 0) h26 hR27 hk31 q32 hq33) (Nat.le_of_ble_eq_true rfl) (Nat.le_of_ble_eq_true rfl) (Nat.le_of_ble_eq_true rfl) (Nat.le_of_ble_eq_true rfl) (fun r35 h37 z36 => ?_)
    obtain ⟨rfl, hR39, g40, e41⟩ := z36
    have f42 := hF.tr f29 g40
    show am_S _ _ _ _ _ _ _ (19, [some (.ref 10), some (.int a), some (.int b), some (va_rf q1)], [.ref a23], h37, 1, 10) _
    refine am_steps ok_Bo_room 2 (x' := (21, [some (.ref 10), some (.int a), some (.int b), some (.ref a23)], [.ref 10], h37, 1, 10)) rfl (Nat.le_of_ble_eq_true rfl) (Nat.le_of_ble_eq_true rfl) ?_
    refine hr_get ok_Bo_room rfl hR39 (kd := 4) (hs_k hR39 (a := 10) rfl) rfl (Nat.le_of_ble_eq_true rfl) (Nat.le_of_ble_eq_true rfl) (v := .ref 11) (congrArg va_rf (hR39.2.2.2.2.1 (400, 10, 11) (by decide))) (pc' := 24) rfl (Nat.le_of_ble_eq_true rfl) (Nat.le_of_ble_eq_true rfl) ?_
    refine am_steps ok_Bo_room 1 (x' := (25, [some (.ref 10), some (.int a), some (.int b), some (.ref a23)], [.int a, .ref 11], h37, 1, 10)) rfl (Nat.le_of_ble_eq_true rfl) (Nat.le_of_ble_eq_true rfl) ?_
    obtain ⟨j43, hx44, hd45⟩ := Option.bind_eq_some_iff.mp hd; clear hd; have hd := hd45; clear hd45
    refine hr_aald ok_Bo_room rfl hR39 (kd := 24) (hs_k hR39 (a := 11) rfl) (by decide) (hs_ln hR39 rfl) hx44 (pc' := 26) rfl (Nat.le_of_ble_eq_true rfl) (Nat.le_of_ble_eq_true rfl) ?_
    obtain ⟨b46, hb47, hd48⟩ := Option.bind_eq_some_iff.mp hd; clear hd; have hd := hd48; clear hd48
    have hk49 := (fun b hb => hR39.2.2.2.1 _ _ (hK.ln (hs_k hR39 (a := 11) rfl)) _ b hb) b46 hb47
    rw [hb47]
    show am_S _ _ _ _ _ _ _ (26, [some (.ref 10), some (.int a), some (.int b), some (.ref a23)], [.ref b46], h37, 1, 10) _
    refine hr_get ok_Bo_room rfl hR39 (kd := 9) hk49 rfl (Nat.le_of_ble_eq_true rfl) (Nat.le_of_ble_eq_true rfl) (v := va_rf (q32.2.2.2.1 903 b46)) rfl (pc' := 29) rfl (Nat.le_of_ble_eq_true rfl) (Nat.le_of_ble_eq_true rfl) ?_
    refine am_steps ok_Bo_room 1 (x' := (30, [some (.ref 10), some (.int a), some (.int b), some (.ref a23)], [.ref a23, va_rf (q32.2.2.2.1 903 b46)], h37, 1, 10)) rfl (Nat.le_of_ble_eq_true rfl) (Nat.le_of_ble_eq_true rfl) ?_
    obtain ⟨b50, hb51, hd52⟩ := Option.bind_eq_some_iff.mp hd; clear hd; have hd := hd52; clear hd52
    have hk53 := (fun b hb => hR39.2.2.1 903 _ b hb) b50 hb51
    rw [hb51]
    show am_S _ _ _ _ _ _ _ (30, [some (.ref 10), some (.int a), some (.int b), some (.ref a23)], [.ref a23, .ref b50], h37, 1, 10) _
    obtain ⟨q54, hq55, hd56⟩ := Option.bind_eq_some_iff.mp hd; clear hd; have hd := hd56; clear hd56
    refine ar_cv ok_Bo_room hk_AL_add2 rfl rfl (As := [.ref a23]) (ad := b50) (rest := []) rfl rfl (hR39.ob hk53 (Nat.le_of_ble_eq_true rfl)) (Nat.le_of_ble_eq_true rfl) (c_AL13_add2 b50 a23 q32 h37 hR39 hk53 (hk31.up e41) q54 hq55) (Nat.le_of_ble_eq_true rfl) (Nat.le_of_ble_eq_true rfl) (Nat.le_of_ble_eq_true rfl) (Nat.le_of_ble_eq_true rfl) (pc' := 33) rfl (fun r57 h59 z58 => ?_)
    obtain ⟨rfl, hR61, g62, e63⟩ := z58
    have f64 := hF.tr f42 g62
    show am_S _ _ _ _ _ _ _ (33, [some (.ref 10), some (.int a), some (.int b), some (.ref a23)], [.int q54.1], h59, 2, 410) _
    refine am_steps ok_Bo_room 1 (x' := (34, [some (.ref 10), some (.int a), some (.int b), some (.ref a23)], [], h59, 2, 410)) rfl (Nat.le_of_ble_eq_true rfl) (Nat.le_of_ble_eq_true rfl) ?_
    refine am_drop 0 ?_
    refine am_drop 1 ?_
    refine am_drop 2 ?_
    cases hd; exact K11 h59 hR61 f64 ((e30.tr e41).tr e63) (fun _ hz => by cases hz; exact ((hk31.up e41).up e63))
  · rw [if_neg hc22] at hd
    refine am_drop 0 ?_
    refine am_drop 1 ?_
    refine am_drop 2 ?_
    refine am_wide (k' := 2) (n' := 410) (Nat.le_of_ble_eq_true rfl) (Nat.le_of_ble_eq_true rfl) ?_
    cases hd; exact K11 h0 hR hF.rf hE.rf hk7
def h_De_addLeg (a : Nat) (b : Int32) (S : hS) : Option (hS) := (am_ix (b * 3) 12).bind fun j1 => ((am_ix ((b * 3) + 1) 12).bind fun j4 => ((am_ix ((b * 3) + 2) 12).bind fun j7 => ((am_ix b 4).bind fun j10 => ((h_In_awaitUnlessSender a (S.2.2.2.2.1 5 j1) S).bind fun q13 => ((h_Bo_account (S.2.2.2.2.1 5 j1) (S.2.2.2.2.1 5 j7) q13).bind fun q24 => ((h_In_addToNet a q24.1 (-(S.2.2.2.2.2.1 6 j10)) q24.2).bind fun q35 => ((h_Bo_account (S.2.2.2.2.1 5 j4) (S.2.2.2.2.1 5 j7) q35).bind fun q46 => ((h_In_addToNet a q46.1 (S.2.2.2.2.2.1 6 j10) q46.2).bind fun q57 => (if ¬ ((S.2.2.2.2.1 5 j7) : Int32) = (q57.2.1 404 10) then (some q57) else ((h_Bo_room (S.2.2.2.2.1 5 j1) (S.2.2.2.2.1 5 j4) q57).bind fun q69 => ((h_In_addToNet a q69.1 (-(S.2.2.2.2.2.1 6 j10)) q69.2).bind fun q80 => ((h_Bo_room (S.2.2.2.2.1 5 j4) (S.2.2.2.2.1 5 j1) q80).bind fun q91 => ((h_In_addToNet a q91.1 (S.2.2.2.2.2.1 6 j10) q91.2).bind fun q102 => (some q102))))))))))))))
set_option maxHeartbeats 4000000 in
set_option maxRecDepth 100000 in
theorem c_De_addLeg (a : Nat) (b : Int32) (S : hS) (h0 : am_H) (hR : RH S h0) (ha : hK S.1 a 7) (q : hS) (hd : h_De_addLeg a b S = some q) : am_Me am_Pr none 8 175 6 840 157 [.ref 20, .ref a, .ref 2, .int b] h0 (hQv q S.1 h0) := by
  refine am_enter (d := hd_De_addLeg) rfl (by decide +kernel) (Nat.le_of_ble_eq_true rfl) ?_
  show am_S _ _ _ _ _ _ _ (0, [some (.ref 20), some (.ref a), some (.ref 2), some (.int b), none, none, none, none, none], [], h0, 0, 0) _
  unfold h_De_addLeg at hd
  refine am_steps ok_De_addLeg 1 (x' := (1, [some (.ref 20), some (.ref a), some (.ref 2), some (.int b), none, none, none, none, none], [.ref 2], h0, 0, 0)) rfl (Nat.le_of_ble_eq_true rfl) (Nat.le_of_ble_eq_true rfl) ?_
  refine hr_get ok_De_addLeg rfl hR (kd := 8) (hs_k hR (a := 2) rfl) rfl (Nat.le_of_ble_eq_true rfl) (Nat.le_of_ble_eq_true rfl) (v := .ref 5) (congrArg va_rf (hR.2.2.2.2.1 (809, 2, 5) (by decide))) (pc' := 4) rfl (Nat.le_of_ble_eq_true rfl) (Nat.le_of_ble_eq_true rfl) ?_
  refine am_steps ok_De_addLeg 3 (x' := (7, [some (.ref 20), some (.ref a), some (.ref 2), some (.int b), none, none, none, none, none], [.int (b * 3), .ref 5], h0, 0, 0)) rfl (Nat.le_of_ble_eq_true rfl) (Nat.le_of_ble_eq_true rfl) ?_
  obtain ⟨j1, hx2, hd3⟩ := Option.bind_eq_some_iff.mp hd; clear hd; have hd := hd3; clear hd3
  refine hr_iald ok_De_addLeg rfl hR (hs_k hR (a := 5) rfl) (hs_ln hR rfl) hx2 (pc' := 8) rfl (Nat.le_of_ble_eq_true rfl) (Nat.le_of_ble_eq_true rfl) ?_
  refine am_steps ok_De_addLeg 2 (x' := (11, [some (.ref 20), some (.ref a), some (.ref 2), some (.int b), some (.int (S.2.2.2.2.1 5 j1)), none, none, none, none], [.ref 2], h0, 0, 0)) rfl (Nat.le_of_ble_eq_true rfl) (Nat.le_of_ble_eq_true rfl) ?_
  refine hr_get ok_De_addLeg rfl hR (kd := 8) (hs_k hR (a := 2) rfl) rfl (Nat.le_of_ble_eq_true rfl) (Nat.le_of_ble_eq_true rfl) (v := .ref 5) (congrArg va_rf (hR.2.2.2.2.1 (809, 2, 5) (by decide))) (pc' := 14) rfl (Nat.le_of_ble_eq_true rfl) (Nat.le_of_ble_eq_true rfl) ?_
  refine am_steps ok_De_addLeg 5 (x' := (19, [some (.ref 20), some (.ref a), some (.ref 2), some (.int b), some (.int (S.2.2.2.2.1 5 j1)), none, none, none, none], [.int ((b * 3) + 1), .ref 5], h0, 0, 0)) rfl (Nat.le_of_ble_eq_true rfl) (Nat.le_of_ble_eq_true rfl) ?_
  obtain ⟨j4, hx5, hd6⟩ := Option.bind_eq_some_iff.mp hd; clear hd; have hd := hd6; clear hd6
  refine hr_iald ok_De_addLeg rfl hR (hs_k hR (a := 5) rfl) (hs_ln hR rfl) hx5 (pc' := 20) rfl (Nat.le_of_ble_eq_true rfl) (Nat.le_of_ble_eq_true rfl) ?_
  refine am_steps ok_De_addLeg 2 (x' := (23, [some (.ref 20), some (.ref a), some (.ref 2), some (.int b), some (.int (S.2.2.2.2.1 5 j1)), some (.int (S.2.2.2.2.1 5 j4)), none, none, none], [.ref 2], h0, 0, 0)) rfl (Nat.le_of_ble_eq_true rfl) (Nat.le_of_ble_eq_true rfl) ?_
  refine hr_get ok_De_addLeg rfl hR (kd := 8) (hs_k hR (a := 2) rfl) rfl (Nat.le_of_ble_eq_true rfl) (Nat.le_of_ble_eq_true rfl) (v := .ref 5) (congrArg va_rf (hR.2.2.2.2.1 (809, 2, 5) (by decide))) (pc' := 26) rfl (Nat.le_of_ble_eq_true rfl) (Nat.le_of_ble_eq_true rfl) ?_
  refine am_steps ok_De_addLeg 5 (x' := (31, [some (.ref 20), some (.ref a), some (.ref 2), some (.int b), some (.int (S.2.2.2.2.1 5 j1)), some (.int (S.2.2.2.2.1 5 j4)), none, none, none], [.int ((b * 3) + 2), .ref 5], h0, 0, 0)) rfl (Nat.le_of_ble_eq_true rfl) (Nat.le_of_ble_eq_true rfl) ?_
  obtain ⟨j7, hx8, hd9⟩ := Option.bind_eq_some_iff.mp hd; clear hd; have hd := hd9; clear hd9
  refine hr_iald ok_De_addLeg rfl hR (hs_k hR (a := 5) rfl) (hs_ln hR rfl) hx8 (pc' := 32) rfl (Nat.le_of_ble_eq_true rfl) (Nat.le_of_ble_eq_true rfl) ?_
  refine am_steps ok_De_addLeg 2 (x' := (35, [some (.ref 20), some (.ref a), some (.ref 2), some (.int b), some (.int (S.2.2.2.2.1 5 j1)), some (.int (S.2.2.2.2.1 5 j4)), some (.int (S.2.2.2.2.1 5 j7)), none, none], [.ref 2], h0, 0, 0)) rfl (Nat.le_of_ble_eq_true rfl) (Nat.le_of_ble_eq_true rfl) ?_
  refine hr_get ok_De_addLeg rfl hR (kd := 8) (hs_k hR (a := 2) rfl) rfl (Nat.le_of_ble_eq_true rfl) (Nat.le_of_ble_eq_true rfl) (v := .ref 6) (congrArg va_rf (hR.2.2.2.2.1 (811, 2, 6) (by decide))) (pc' := 38) rfl (Nat.le_of_ble_eq_true rfl) (Nat.le_of_ble_eq_true rfl) ?_
  refine am_steps ok_De_addLeg 1 (x' := (39, [some (.ref 20), some (.ref a), some (.ref 2), some (.int b), some (.int (S.2.2.2.2.1 5 j1)), some (.int (S.2.2.2.2.1 5 j4)), some (.int (S.2.2.2.2.1 5 j7)), none, none], [.int b, .ref 6], h0, 0, 0)) rfl (Nat.le_of_ble_eq_true rfl) (Nat.le_of_ble_eq_true rfl) ?_
  obtain ⟨j10, hx11, hd12⟩ := Option.bind_eq_some_iff.mp hd; clear hd; have hd := hd12; clear hd12
  refine hr_lald ok_De_addLeg rfl hR (hs_k hR (a := 6) rfl) (hs_ln hR rfl) hx11 (pc' := 40) rfl (Nat.le_of_ble_eq_true rfl) (Nat.le_of_ble_eq_true rfl) ?_
  refine am_steps ok_De_addLeg 3 (x' := (45, [some (.ref 20), some (.ref a), some (.ref 2), some (.int b), some (.int (S.2.2.2.2.1 5 j1)), some (.int (S.2.2.2.2.1 5 j4)), some (.int (S.2.2.2.2.1 5 j7)), some (.long (S.2.2.2.2.2.1 6 j10)), none], [.int (S.2.2.2.2.1 5 j1), .ref a], h0, 0, 0)) rfl (Nat.le_of_ble_eq_true rfl) (Nat.le_of_ble_eq_true rfl) ?_
  obtain ⟨q13, hq14, hd15⟩ := Option.bind_eq_some_iff.mp hd; clear hd; have hd := hd15; clear hd15
  refine ar_cv ok_De_addLeg hk_In_awaitUnlessSender rfl rfl (As := [.int (S.2.2.2.2.1 5 j1)]) (ad := a) (rest := []) rfl rfl (hR.ob ha (Nat.le_of_ble_eq_true rfl)) (Nat.le_of_ble_eq_true rfl) (c_In_awaitUnlessSender a (S.2.2.2.2.1 5 j1) S h0 hR ha q13 hq14) (Nat.le_of_ble_eq_true rfl) (Nat.le_of_ble_eq_true rfl) (Nat.le_of_ble_eq_true rfl) (Nat.le_of_ble_eq_true rfl) (pc' := 48) rfl (fun r16 h18 z17 => ?_)
  obtain ⟨rfl, hR20, g21, e22⟩ := z17
  have f23 := hF.tr hF.rf g21
  show am_S _ _ _ _ _ _ _ (48, [some (.ref 20), some (.ref a), some (.ref 2), some (.int b), some (.int (S.2.2.2.2.1 5 j1)), some (.int (S.2.2.2.2.1 5 j4)), some (.int (S.2.2.2.2.1 5 j7)), some (.long (S.2.2.2.2.2.1 6 j10)), none], [], h18, 0, 0) _
  refine am_steps ok_De_addLeg 2 (x' := (50, [some (.ref 20), some (.ref a), some (.ref 2), some (.int b), some (.int (S.2.2.2.2.1 5 j1)), some (.int (S.2.2.2.2.1 5 j4)), some (.int (S.2.2.2.2.1 5 j7)), some (.long (S.2.2.2.2.2.1 6 j10)), none], [.ref 20, .ref a], h18, 0, 0)) rfl (Nat.le_of_ble_eq_true rfl) (Nat.le_of_ble_eq_true rfl) ?_
  refine hr_get ok_De_addLeg rfl hR20 (kd := 5) (hs_k hR20 (a := 20) rfl) rfl (Nat.le_of_ble_eq_true rfl) (Nat.le_of_ble_eq_true rfl) (v := .ref 10) (congrArg va_rf (hR20.2.2.2.2.1 (500, 20, 10) (by decide))) (pc' := 53) rfl (Nat.le_of_ble_eq_true rfl) (Nat.le_of_ble_eq_true rfl) ?_
  refine am_steps ok_De_addLeg 2 (x' := (57, [some (.ref 20), some (.ref a), some (.ref 2), some (.int b), some (.int (S.2.2.2.2.1 5 j1)), some (.int (S.2.2.2.2.1 5 j4)), some (.int (S.2.2.2.2.1 5 j7)), some (.long (S.2.2.2.2.2.1 6 j10)), none], [.int (S.2.2.2.2.1 5 j7), .int (S.2.2.2.2.1 5 j1), .ref 10, .ref a], h18, 0, 0)) rfl (Nat.le_of_ble_eq_true rfl) (Nat.le_of_ble_eq_true rfl) ?_
  obtain ⟨q24, hq25, hd26⟩ := Option.bind_eq_some_iff.mp hd; clear hd; have hd := hd26; clear hd26
  refine ar_cv ok_De_addLeg hk_Bo_account rfl rfl (As := [.int (S.2.2.2.2.1 5 j1), .int (S.2.2.2.2.1 5 j7)]) (ad := 10) (rest := [.ref a]) rfl rfl (hR20.ob (hs_k hR20 (a := 10) rfl) (Nat.le_of_ble_eq_true rfl)) (Nat.le_of_ble_eq_true rfl) (c_Bo_account (S.2.2.2.2.1 5 j1) (S.2.2.2.2.1 5 j7) q13 h18 hR20  q24 hq25) (Nat.le_of_ble_eq_true rfl) (Nat.le_of_ble_eq_true rfl) (Nat.le_of_ble_eq_true rfl) (Nat.le_of_ble_eq_true rfl) (pc' := 60) rfl (fun r27 h29 z28 => ?_)
  obtain ⟨rfl, hk30, hR31, g32, e33⟩ := z28
  have f34 := hF.tr f23 g32
  show am_S _ _ _ _ _ _ _ (60, [some (.ref 20), some (.ref a), some (.ref 2), some (.int b), some (.int (S.2.2.2.2.1 5 j1)), some (.int (S.2.2.2.2.1 5 j4)), some (.int (S.2.2.2.2.1 5 j7)), some (.long (S.2.2.2.2.2.1 6 j10)), none], [.ref q24.1, .ref a], h29, 1, 10) _
  refine am_steps ok_De_addLeg 2 (x' := (63, [some (.ref 20), some (.ref a), some (.ref 2), some (.int b), some (.int (S.2.2.2.2.1 5 j1)), some (.int (S.2.2.2.2.1 5 j4)), some (.int (S.2.2.2.2.1 5 j7)), some (.long (S.2.2.2.2.2.1 6 j10)), none], [.long (-(S.2.2.2.2.2.1 6 j10)), .ref q24.1, .ref a], h29, 1, 10)) rfl (Nat.le_of_ble_eq_true rfl) (Nat.le_of_ble_eq_true rfl) ?_
  obtain ⟨q35, hq36, hd37⟩ := Option.bind_eq_some_iff.mp hd; clear hd; have hd := hd37; clear hd37
  refine ar_cv ok_De_addLeg hk_In_addToNet rfl rfl (As := [.ref q24.1, .long (-(S.2.2.2.2.2.1 6 j10))]) (ad := a) (rest := []) rfl rfl (hR31.ob ((ha.up e22).up e33) (Nat.le_of_ble_eq_true rfl)) (Nat.le_of_ble_eq_true rfl) (c_In_addToNet a q24.1 (-(S.2.2.2.2.2.1 6 j10)) q24.2 h29 hR31 ((ha.up e22).up e33) (hk30 _ rfl) q35 hq36) (Nat.le_of_ble_eq_true rfl) (Nat.le_of_ble_eq_true rfl) (Nat.le_of_ble_eq_true rfl) (Nat.le_of_ble_eq_true rfl) (pc' := 66) rfl (fun r38 h40 z39 => ?_)
  obtain ⟨rfl, hR42, g43, e44⟩ := z39
  have f45 := hF.tr f34 g43
  show am_S _ _ _ _ _ _ _ (66, [some (.ref 20), some (.ref a), some (.ref 2), some (.int b), some (.int (S.2.2.2.2.1 5 j1)), some (.int (S.2.2.2.2.1 5 j4)), some (.int (S.2.2.2.2.1 5 j7)), some (.long (S.2.2.2.2.2.1 6 j10)), none], [], h40, 1, 10) _
  refine am_steps ok_De_addLeg 2 (x' := (68, [some (.ref 20), some (.ref a), some (.ref 2), some (.int b), some (.int (S.2.2.2.2.1 5 j1)), some (.int (S.2.2.2.2.1 5 j4)), some (.int (S.2.2.2.2.1 5 j7)), some (.long (S.2.2.2.2.2.1 6 j10)), none], [.ref 20, .ref a], h40, 1, 10)) rfl (Nat.le_of_ble_eq_true rfl) (Nat.le_of_ble_eq_true rfl) ?_
  refine hr_get ok_De_addLeg rfl hR42 (kd := 5) (hs_k hR42 (a := 20) rfl) rfl (Nat.le_of_ble_eq_true rfl) (Nat.le_of_ble_eq_true rfl) (v := .ref 10) (congrArg va_rf (hR42.2.2.2.2.1 (500, 20, 10) (by decide))) (pc' := 71) rfl (Nat.le_of_ble_eq_true rfl) (Nat.le_of_ble_eq_true rfl) ?_
  refine am_steps ok_De_addLeg 2 (x' := (75, [some (.ref 20), some (.ref a), some (.ref 2), some (.int b), some (.int (S.2.2.2.2.1 5 j1)), some (.int (S.2.2.2.2.1 5 j4)), some (.int (S.2.2.2.2.1 5 j7)), some (.long (S.2.2.2.2.2.1 6 j10)), none], [.int (S.2.2.2.2.1 5 j7), .int (S.2.2.2.2.1 5 j4), .ref 10, .ref a], h40, 1, 10)) rfl (Nat.le_of_ble_eq_true rfl) (Nat.le_of_ble_eq_true rfl) ?_
  obtain ⟨q46, hq47, hd48⟩ := Option.bind_eq_some_iff.mp hd; clear hd; have hd := hd48; clear hd48
  refine ar_cv ok_De_addLeg hk_Bo_account rfl rfl (As := [.int (S.2.2.2.2.1 5 j4), .int (S.2.2.2.2.1 5 j7)]) (ad := 10) (rest := [.ref a]) rfl rfl (hR42.ob (hs_k hR42 (a := 10) rfl) (Nat.le_of_ble_eq_true rfl)) (Nat.le_of_ble_eq_true rfl) (c_Bo_account (S.2.2.2.2.1 5 j4) (S.2.2.2.2.1 5 j7) q35 h40 hR42  q46 hq47) (Nat.le_of_ble_eq_true rfl) (Nat.le_of_ble_eq_true rfl) (Nat.le_of_ble_eq_true rfl) (Nat.le_of_ble_eq_true rfl) (pc' := 78) rfl (fun r49 h51 z50 => ?_)
  obtain ⟨rfl, hk52, hR53, g54, e55⟩ := z50
  have f56 := hF.tr f45 g54
  show am_S _ _ _ _ _ _ _ (78, [some (.ref 20), some (.ref a), some (.ref 2), some (.int b), some (.int (S.2.2.2.2.1 5 j1)), some (.int (S.2.2.2.2.1 5 j4)), some (.int (S.2.2.2.2.1 5 j7)), some (.long (S.2.2.2.2.2.1 6 j10)), none], [.ref q46.1, .ref a], h51, 2, 20) _
  refine am_steps ok_De_addLeg 1 (x' := (80, [some (.ref 20), some (.ref a), some (.ref 2), some (.int b), some (.int (S.2.2.2.2.1 5 j1)), some (.int (S.2.2.2.2.1 5 j4)), some (.int (S.2.2.2.2.1 5 j7)), some (.long (S.2.2.2.2.2.1 6 j10)), none], [.long (S.2.2.2.2.2.1 6 j10), .ref q46.1, .ref a], h51, 2, 20)) rfl (Nat.le_of_ble_eq_true rfl) (Nat.le_of_ble_eq_true rfl) ?_
  obtain ⟨q57, hq58, hd59⟩ := Option.bind_eq_some_iff.mp hd; clear hd; have hd := hd59; clear hd59
  refine ar_cv ok_De_addLeg hk_In_addToNet rfl rfl (As := [.ref q46.1, .long (S.2.2.2.2.2.1 6 j10)]) (ad := a) (rest := []) rfl rfl (hR53.ob ((((ha.up e22).up e33).up e44).up e55) (Nat.le_of_ble_eq_true rfl)) (Nat.le_of_ble_eq_true rfl) (c_In_addToNet a q46.1 (S.2.2.2.2.2.1 6 j10) q46.2 h51 hR53 ((((ha.up e22).up e33).up e44).up e55) (hk52 _ rfl) q57 hq58) (Nat.le_of_ble_eq_true rfl) (Nat.le_of_ble_eq_true rfl) (Nat.le_of_ble_eq_true rfl) (Nat.le_of_ble_eq_true rfl) (pc' := 83) rfl (fun r60 h62 z61 => ?_)
  obtain ⟨rfl, hR64, g65, e66⟩ := z61
  have f67 := hF.tr f56 g65
  show am_S _ _ _ _ _ _ _ (83, [some (.ref 20), some (.ref a), some (.ref 2), some (.int b), some (.int (S.2.2.2.2.1 5 j1)), some (.int (S.2.2.2.2.1 5 j4)), some (.int (S.2.2.2.2.1 5 j7)), some (.long (S.2.2.2.2.2.1 6 j10)), none], [], h62, 2, 20) _
  refine am_steps ok_De_addLeg 2 (x' := (86, [some (.ref 20), some (.ref a), some (.ref 2), some (.int b), some (.int (S.2.2.2.2.1 5 j1)), some (.int (S.2.2.2.2.1 5 j4)), some (.int (S.2.2.2.2.1 5 j7)), some (.long (S.2.2.2.2.2.1 6 j10)), none], [.ref 20, .int (S.2.2.2.2.1 5 j7)], h62, 2, 20)) rfl (Nat.le_of_ble_eq_true rfl) (Nat.le_of_ble_eq_true rfl) ?_
  refine hr_get ok_De_addLeg rfl hR64 (kd := 5) (hs_k hR64 (a := 20) rfl) rfl (Nat.le_of_ble_eq_true rfl) (Nat.le_of_ble_eq_true rfl) (v := .ref 10) (congrArg va_rf (hR64.2.2.2.2.1 (500, 20, 10) (by decide))) (pc' := 89) rfl (Nat.le_of_ble_eq_true rfl) (Nat.le_of_ble_eq_true rfl) ?_
  refine hr_get ok_De_addLeg rfl hR64 (kd := 4) (hs_k hR64 (a := 10) rfl) rfl (Nat.le_of_ble_eq_true rfl) (Nat.le_of_ble_eq_true rfl) (v := .int (q57.2.1 404 10)) rfl (pc' := 92) rfl (Nat.le_of_ble_eq_true rfl) (Nat.le_of_ble_eq_true rfl) ?_
  refine am_steps ok_De_addLeg 1 (x' := (if ¬ ((S.2.2.2.2.1 5 j7) : Int32) = (q57.2.1 404 10) then 130 else 95, [some (.ref 20), some (.ref a), some (.ref 2), some (.int b), some (.int (S.2.2.2.2.1 5 j1)), some (.int (S.2.2.2.2.1 5 j4)), some (.int (S.2.2.2.2.1 5 j7)), some (.long (S.2.2.2.2.2.1 6 j10)), none], [], h62, 2, 20)) rfl (Nat.le_of_ble_eq_true rfl) (Nat.le_of_ble_eq_true rfl) ?_
  refine am_if (fun hc68 => ?_) (fun hc68 => ?_)
  · rw [if_pos hc68] at hd
    cases hd; exact am_ret ok_De_addLeg rfl (Nat.le_of_ble_eq_true rfl) (Nat.le_of_ble_eq_true rfl) ⟨rfl, hR64, f67, (((((hE.rf.tr e22).tr e33).tr e44).tr e55).tr e66)⟩
  · rw [if_neg hc68] at hd
    refine am_steps ok_De_addLeg 2 (x' := (97, [some (.ref 20), some (.ref a), some (.ref 2), some (.int b), some (.int (S.2.2.2.2.1 5 j1)), some (.int (S.2.2.2.2.1 5 j4)), some (.int (S.2.2.2.2.1 5 j7)), some (.long (S.2.2.2.2.2.1 6 j10)), none], [.ref 20, .ref a], h62, 2, 20)) rfl (Nat.le_of_ble_eq_true rfl) (Nat.le_of_ble_eq_true rfl) ?_
    refine hr_get ok_De_addLeg rfl hR64 (kd := 5) (hs_k hR64 (a := 20) rfl) rfl (Nat.le_of_ble_eq_true rfl) (Nat.le_of_ble_eq_true rfl) (v := .ref 10) (congrArg va_rf (hR64.2.2.2.2.1 (500, 20, 10) (by decide))) (pc' := 100) rfl (Nat.le_of_ble_eq_true rfl) (Nat.le_of_ble_eq_true rfl) ?_
    refine am_steps ok_De_addLeg 2 (x' := (104, [some (.ref 20), some (.ref a), some (.ref 2), some (.int b), some (.int (S.2.2.2.2.1 5 j1)), some (.int (S.2.2.2.2.1 5 j4)), some (.int (S.2.2.2.2.1 5 j7)), some (.long (S.2.2.2.2.2.1 6 j10)), none], [.int (S.2.2.2.2.1 5 j4), .int (S.2.2.2.2.1 5 j1), .ref 10, .ref a], h62, 2, 20)) rfl (Nat.le_of_ble_eq_true rfl) (Nat.le_of_ble_eq_true rfl) ?_
    obtain ⟨q69, hq70, hd71⟩ := Option.bind_eq_some_iff.mp hd; clear hd; have hd := hd71; clear hd71
    refine ar_cv ok_De_addLeg hk_Bo_room rfl rfl (As := [.int (S.2.2.2.2.1 5 j1), .int (S.2.2.2.2.1 5 j4)]) (ad := 10) (rest := [.ref a]) rfl rfl (hR64.ob (hs_k hR64 (a := 10) rfl) (Nat.le_of_ble_eq_true rfl)) (Nat.le_of_ble_eq_true rfl) (c_Bo_room (S.2.2.2.2.1 5 j1) (S.2.2.2.2.1 5 j4) q57 h62 hR64  q69 hq70) (Nat.le_of_ble_eq_true rfl) (Nat.le_of_ble_eq_true rfl) (Nat.le_of_ble_eq_true rfl) (Nat.le_of_ble_eq_true rfl) (pc' := 107) rfl (fun r72 h74 z73 => ?_)
    obtain ⟨rfl, hk75, hR76, g77, e78⟩ := z73
    have f79 := hF.tr f67 g77
    show am_S _ _ _ _ _ _ _ (107, [some (.ref 20), some (.ref a), some (.ref 2), some (.int b), some (.int (S.2.2.2.2.1 5 j1)), some (.int (S.2.2.2.2.1 5 j4)), some (.int (S.2.2.2.2.1 5 j7)), some (.long (S.2.2.2.2.2.1 6 j10)), none], [.ref q69.1, .ref a], h74, 4, 430) _
    refine am_steps ok_De_addLeg 2 (x' := (110, [some (.ref 20), some (.ref a), some (.ref 2), some (.int b), some (.int (S.2.2.2.2.1 5 j1)), some (.int (S.2.2.2.2.1 5 j4)), some (.int (S.2.2.2.2.1 5 j7)), some (.long (S.2.2.2.2.2.1 6 j10)), none], [.long (-(S.2.2.2.2.2.1 6 j10)), .ref q69.1, .ref a], h74, 4, 430)) rfl (Nat.le_of_ble_eq_true rfl) (Nat.le_of_ble_eq_true rfl) ?_
    obtain ⟨q80, hq81, hd82⟩ := Option.bind_eq_some_iff.mp hd; clear hd; have hd := hd82; clear hd82
    refine ar_cv ok_De_addLeg hk_In_addToNet rfl rfl (As := [.ref q69.1, .long (-(S.2.2.2.2.2.1 6 j10))]) (ad := a) (rest := []) rfl rfl (hR76.ob ((((((ha.up e22).up e33).up e44).up e55).up e66).up e78) (Nat.le_of_ble_eq_true rfl)) (Nat.le_of_ble_eq_true rfl) (c_In_addToNet a q69.1 (-(S.2.2.2.2.2.1 6 j10)) q69.2 h74 hR76 ((((((ha.up e22).up e33).up e44).up e55).up e66).up e78) (hk75 _ rfl) q80 hq81) (Nat.le_of_ble_eq_true rfl) (Nat.le_of_ble_eq_true rfl) (Nat.le_of_ble_eq_true rfl) (Nat.le_of_ble_eq_true rfl) (pc' := 113) rfl (fun r83 h85 z84 => ?_)
    obtain ⟨rfl, hR87, g88, e89⟩ := z84
    have f90 := hF.tr f79 g88
    show am_S _ _ _ _ _ _ _ (113, [some (.ref 20), some (.ref a), some (.ref 2), some (.int b), some (.int (S.2.2.2.2.1 5 j1)), some (.int (S.2.2.2.2.1 5 j4)), some (.int (S.2.2.2.2.1 5 j7)), some (.long (S.2.2.2.2.2.1 6 j10)), none], [], h85, 4, 430) _
    refine am_steps ok_De_addLeg 2 (x' := (115, [some (.ref 20), some (.ref a), some (.ref 2), some (.int b), some (.int (S.2.2.2.2.1 5 j1)), some (.int (S.2.2.2.2.1 5 j4)), some (.int (S.2.2.2.2.1 5 j7)), some (.long (S.2.2.2.2.2.1 6 j10)), none], [.ref 20, .ref a], h85, 4, 430)) rfl (Nat.le_of_ble_eq_true rfl) (Nat.le_of_ble_eq_true rfl) ?_
    refine hr_get ok_De_addLeg rfl hR87 (kd := 5) (hs_k hR87 (a := 20) rfl) rfl (Nat.le_of_ble_eq_true rfl) (Nat.le_of_ble_eq_true rfl) (v := .ref 10) (congrArg va_rf (hR87.2.2.2.2.1 (500, 20, 10) (by decide))) (pc' := 118) rfl (Nat.le_of_ble_eq_true rfl) (Nat.le_of_ble_eq_true rfl) ?_
    refine am_steps ok_De_addLeg 2 (x' := (122, [some (.ref 20), some (.ref a), some (.ref 2), some (.int b), some (.int (S.2.2.2.2.1 5 j1)), some (.int (S.2.2.2.2.1 5 j4)), some (.int (S.2.2.2.2.1 5 j7)), some (.long (S.2.2.2.2.2.1 6 j10)), none], [.int (S.2.2.2.2.1 5 j1), .int (S.2.2.2.2.1 5 j4), .ref 10, .ref a], h85, 4, 430)) rfl (Nat.le_of_ble_eq_true rfl) (Nat.le_of_ble_eq_true rfl) ?_
    obtain ⟨q91, hq92, hd93⟩ := Option.bind_eq_some_iff.mp hd; clear hd; have hd := hd93; clear hd93
    refine ar_cv ok_De_addLeg hk_Bo_room rfl rfl (As := [.int (S.2.2.2.2.1 5 j4), .int (S.2.2.2.2.1 5 j1)]) (ad := 10) (rest := [.ref a]) rfl rfl (hR87.ob (hs_k hR87 (a := 10) rfl) (Nat.le_of_ble_eq_true rfl)) (Nat.le_of_ble_eq_true rfl) (c_Bo_room (S.2.2.2.2.1 5 j4) (S.2.2.2.2.1 5 j1) q80 h85 hR87  q91 hq92) (Nat.le_of_ble_eq_true rfl) (Nat.le_of_ble_eq_true rfl) (Nat.le_of_ble_eq_true rfl) (Nat.le_of_ble_eq_true rfl) (pc' := 125) rfl (fun r94 h96 z95 => ?_)
    obtain ⟨rfl, hk97, hR98, g99, e100⟩ := z95
    have f101 := hF.tr f90 g99
    show am_S _ _ _ _ _ _ _ (125, [some (.ref 20), some (.ref a), some (.ref 2), some (.int b), some (.int (S.2.2.2.2.1 5 j1)), some (.int (S.2.2.2.2.1 5 j4)), some (.int (S.2.2.2.2.1 5 j7)), some (.long (S.2.2.2.2.2.1 6 j10)), none], [.ref q91.1, .ref a], h96, 6, 840) _
    refine am_steps ok_De_addLeg 1 (x' := (127, [some (.ref 20), some (.ref a), some (.ref 2), some (.int b), some (.int (S.2.2.2.2.1 5 j1)), some (.int (S.2.2.2.2.1 5 j4)), some (.int (S.2.2.2.2.1 5 j7)), some (.long (S.2.2.2.2.2.1 6 j10)), none], [.long (S.2.2.2.2.2.1 6 j10), .ref q91.1, .ref a], h96, 6, 840)) rfl (Nat.le_of_ble_eq_true rfl) (Nat.le_of_ble_eq_true rfl) ?_
    obtain ⟨q102, hq103, hd104⟩ := Option.bind_eq_some_iff.mp hd; clear hd; have hd := hd104; clear hd104
    refine ar_cv ok_De_addLeg hk_In_addToNet rfl rfl (As := [.ref q91.1, .long (S.2.2.2.2.2.1 6 j10)]) (ad := a) (rest := []) rfl rfl (hR98.ob ((((((((ha.up e22).up e33).up e44).up e55).up e66).up e78).up e89).up e100) (Nat.le_of_ble_eq_true rfl)) (Nat.le_of_ble_eq_true rfl) (c_In_addToNet a q91.1 (S.2.2.2.2.2.1 6 j10) q91.2 h96 hR98 ((((((((ha.up e22).up e33).up e44).up e55).up e66).up e78).up e89).up e100) (hk97 _ rfl) q102 hq103) (Nat.le_of_ble_eq_true rfl) (Nat.le_of_ble_eq_true rfl) (Nat.le_of_ble_eq_true rfl) (Nat.le_of_ble_eq_true rfl) (pc' := 130) rfl (fun r105 h107 z106 => ?_)
    obtain ⟨rfl, hR109, g110, e111⟩ := z106
    have f112 := hF.tr f101 g110
    show am_S _ _ _ _ _ _ _ (130, [some (.ref 20), some (.ref a), some (.ref 2), some (.int b), some (.int (S.2.2.2.2.1 5 j1)), some (.int (S.2.2.2.2.1 5 j4)), some (.int (S.2.2.2.2.1 5 j7)), some (.long (S.2.2.2.2.2.1 6 j10)), none], [], h107, 6, 840) _
    cases hd; exact am_ret ok_De_addLeg rfl (Nat.le_of_ble_eq_true rfl) (Nat.le_of_ble_eq_true rfl) ⟨rfl, hR109, f112, (((((((((hE.rf.tr e22).tr e33).tr e44).tr e55).tr e66).tr e78).tr e89).tr e100).tr e111)⟩
def h_In_awaitsNobody (a : Nat) (S : hS) : Option (Int32) := if ¬ ((S.2.1 707 a) : Int32) = 0 then (some 0) else (some 1)
set_option maxHeartbeats 4000000 in
set_option maxRecDepth 100000 in
theorem c_In_awaitsNobody (a : Nat) (S : hS) (h0 : am_H) (hR : RH S h0) (ha : hK S.1 a 7) (q : Int32) (hd : h_In_awaitsNobody a S = some q) : am_Me am_Pr none 0 0 0 0 171 [.ref a] h0 (am_is (some (.int q)) h0) := by
  refine am_enter (d := hd_In_awaitsNobody) rfl (by decide +kernel) (Nat.le_of_ble_eq_true rfl) ?_
  show am_S _ _ _ _ _ _ _ (0, [some (.ref a)], [], h0, 0, 0) _
  unfold h_In_awaitsNobody at hd
  refine am_steps ok_In_awaitsNobody 1 (x' := (1, [some (.ref a)], [.ref a], h0, 0, 0)) rfl (Nat.le_of_ble_eq_true rfl) (Nat.le_of_ble_eq_true rfl) ?_
  refine hr_get ok_In_awaitsNobody rfl hR (kd := 7) ha rfl (Nat.le_of_ble_eq_true rfl) (Nat.le_of_ble_eq_true rfl) (v := .int (S.2.1 707 a)) rfl (pc' := 4) rfl (Nat.le_of_ble_eq_true rfl) (Nat.le_of_ble_eq_true rfl) ?_
  refine am_steps ok_In_awaitsNobody 1 (x' := (if ¬ ((S.2.1 707 a) : Int32) = 0 then 11 else 7, [some (.ref a)], [], h0, 0, 0)) rfl (Nat.le_of_ble_eq_true rfl) (Nat.le_of_ble_eq_true rfl) ?_
  refine am_if (fun hc1 => ?_) (fun hc1 => ?_)
  · rw [if_pos hc1] at hd
    refine am_steps ok_In_awaitsNobody 1 (x' := (12, [some (.ref a)], [.int 0], h0, 0, 0)) rfl (Nat.le_of_ble_eq_true rfl) (Nat.le_of_ble_eq_true rfl) ?_
    cases hd; exact am_ret ok_In_awaitsNobody rfl (Nat.le_of_ble_eq_true rfl) (Nat.le_of_ble_eq_true rfl) ⟨rfl, rfl⟩
  · rw [if_neg hc1] at hd
    refine am_steps ok_In_awaitsNobody 2 (x' := (12, [some (.ref a)], [.int 1], h0, 0, 0)) rfl (Nat.le_of_ble_eq_true rfl) (Nat.le_of_ble_eq_true rfl) ?_
    cases hd; exact am_ret ok_In_awaitsNobody rfl (Nat.le_of_ble_eq_true rfl) (Nat.le_of_ble_eq_true rfl) ⟨rfl, rfl⟩
def hl_Qu_come_46 : Nat → Nat → Int32 → hS → Option (Int32 × hS)
  | 0, _, _, _ => none
  | fu + 1, v1, v2, s => if (v2 : Int32) ≤ 0 then (some (v2, s)) else ((am_ix (v2 - 1) 250).bind fun j24 => (((s.2.2.2.2.2.2 17 j24)).bind fun b27 => (if ((s.2.1 703 b27) : Int32) ≤ (s.2.1 703 v1) then (some (v2, s)) else ((am_ix v2 250).bind fun j32 => (hl_Qu_come_46 fu v1 (v2 + (-1)) (hpQ s 17 j32 (some b27)))))))
set_option maxHeartbeats 4000000 in
set_option maxRecDepth 100000 in
theorem Lc_Qu_come_46 {Q : Option Value → am_H → Prop} (sh0 : List (Nat × Nat)) (h0 : am_H) : ∀ (fu : Nat) (v1 : Nat) (v2 : Int32) (s : hS) (h : am_H), RH s h → hF h0 h → hE sh0 s.1 → (hK s.1 v1 7) → ∀ q : Int32 × hS, hl_Qu_come_46 fu v1 v2 s = some q → (∀ h' : am_H, RH q.2 h' → hF h0 h' → hE sh0 q.2.1 → am_S am_Pr none 1 20 0 0 212 (88, [some (.ref 16), some (.ref v1), some (.int q.1)], [], h', 0, 0) Q) → am_S am_Pr none 1 20 0 0 212 (46, [some (.ref 16), some (.ref v1), some (.int v2)], [], h, 0, 0) Q := by
  intro fu
  induction fu with
  | zero => intro v1 v2 s h hR f he hv1 q hd; cases hd
  | succ fu ih =>
    intro v1 v2 s h hR f he hv1 q hd kk
    unfold hl_Qu_come_46 at hd
    refine am_steps ok_Qu_come 2 (x' := (if (v2 : Int32) ≤ 0 then 88 else 50, [some (.ref 16), some (.ref v1), some (.int v2)], [], h, 0, 0)) rfl (Nat.le_of_ble_eq_true rfl) (Nat.le_of_ble_eq_true rfl) ?_
    refine am_if (fun hc23 => ?_) (fun hc23 => ?_)
    · rw [if_pos hc23] at hd
      cases hd; exact kk h hR f he 
    · rw [if_neg hc23] at hd
      refine am_steps ok_Qu_come 1 (x' := (51, [some (.ref 16), some (.ref v1), some (.int v2)], [.ref 16], h, 0, 0)) rfl (Nat.le_of_ble_eq_true rfl) (Nat.le_of_ble_eq_true rfl) ?_
      refine hr_get ok_Qu_come rfl hR (kd := 11) (hs_k hR (a := 16) rfl) rfl (Nat.le_of_ble_eq_true rfl) (Nat.le_of_ble_eq_true rfl) (v := .ref 17) (congrArg va_rf (hR.2.2.2.2.1 (1100, 16, 17) (by decide))) (pc' := 54) rfl (Nat.le_of_ble_eq_true rfl) (Nat.le_of_ble_eq_true rfl) ?_
      refine am_steps ok_Qu_come 3 (x' := (57, [some (.ref 16), some (.ref v1), some (.int v2)], [.int (v2 - 1), .ref 17], h, 0, 0)) rfl (Nat.le_of_ble_eq_true rfl) (Nat.le_of_ble_eq_true rfl) ?_
      obtain ⟨j24, hx25, hd26⟩ := Option.bind_eq_some_iff.mp hd; clear hd; have hd := hd26; clear hd26
      refine hr_aald ok_Qu_come rfl hR (kd := 27) (hs_k hR (a := 17) rfl) (by decide) (hs_ln hR rfl) hx25 (pc' := 58) rfl (Nat.le_of_ble_eq_true rfl) (Nat.le_of_ble_eq_true rfl) ?_
      obtain ⟨b27, hb28, hd29⟩ := Option.bind_eq_some_iff.mp hd; clear hd; have hd := hd29; clear hd29
      have hk30 := (fun b hb => hR.2.2.2.1 _ _ (hK.ln (hs_k hR (a := 17) rfl)) _ b hb) b27 hb28
      rw [hb28]
      show am_S _ _ _ _ _ _ _ (58, [some (.ref 16), some (.ref v1), some (.int v2)], [.ref b27], h, 0, 0) _
      refine hr_get ok_Qu_come rfl hR (kd := 7) hk30 rfl (Nat.le_of_ble_eq_true rfl) (Nat.le_of_ble_eq_true rfl) (v := .int (s.2.1 703 b27)) rfl (pc' := 61) rfl (Nat.le_of_ble_eq_true rfl) (Nat.le_of_ble_eq_true rfl) ?_
      refine am_steps ok_Qu_come 1 (x' := (62, [some (.ref 16), some (.ref v1), some (.int v2)], [.ref v1, .int (s.2.1 703 b27)], h, 0, 0)) rfl (Nat.le_of_ble_eq_true rfl) (Nat.le_of_ble_eq_true rfl) ?_
      refine hr_get ok_Qu_come rfl hR (kd := 7) hv1 rfl (Nat.le_of_ble_eq_true rfl) (Nat.le_of_ble_eq_true rfl) (v := .int (s.2.1 703 v1)) rfl (pc' := 65) rfl (Nat.le_of_ble_eq_true rfl) (Nat.le_of_ble_eq_true rfl) ?_
      refine am_steps ok_Qu_come 1 (x' := (if ((s.2.1 703 b27) : Int32) ≤ (s.2.1 703 v1) then 88 else 68, [some (.ref 16), some (.ref v1), some (.int v2)], [], h, 0, 0)) rfl (Nat.le_of_ble_eq_true rfl) (Nat.le_of_ble_eq_true rfl) ?_
      refine am_if (fun hc31 => ?_) (fun hc31 => ?_)
      · rw [if_pos hc31] at hd
        cases hd; exact kk h hR f he 
      · rw [if_neg hc31] at hd
        refine am_steps ok_Qu_come 1 (x' := (69, [some (.ref 16), some (.ref v1), some (.int v2)], [.ref 16], h, 0, 0)) rfl (Nat.le_of_ble_eq_true rfl) (Nat.le_of_ble_eq_true rfl) ?_
        refine hr_get ok_Qu_come rfl hR (kd := 11) (hs_k hR (a := 16) rfl) rfl (Nat.le_of_ble_eq_true rfl) (Nat.le_of_ble_eq_true rfl) (v := .ref 17) (congrArg va_rf (hR.2.2.2.2.1 (1100, 16, 17) (by decide))) (pc' := 72) rfl (Nat.le_of_ble_eq_true rfl) (Nat.le_of_ble_eq_true rfl) ?_
        refine am_steps ok_Qu_come 2 (x' := (74, [some (.ref 16), some (.ref v1), some (.int v2)], [.ref 16, .int v2, .ref 17], h, 0, 0)) rfl (Nat.le_of_ble_eq_true rfl) (Nat.le_of_ble_eq_true rfl) ?_
        refine hr_get ok_Qu_come rfl hR (kd := 11) (hs_k hR (a := 16) rfl) rfl (Nat.le_of_ble_eq_true rfl) (Nat.le_of_ble_eq_true rfl) (v := .ref 17) (congrArg va_rf (hR.2.2.2.2.1 (1100, 16, 17) (by decide))) (pc' := 77) rfl (Nat.le_of_ble_eq_true rfl) (Nat.le_of_ble_eq_true rfl) ?_
        refine am_steps ok_Qu_come 3 (x' := (80, [some (.ref 16), some (.ref v1), some (.int v2)], [.int (v2 - 1), .ref 17, .int v2, .ref 17], h, 0, 0)) rfl (Nat.le_of_ble_eq_true rfl) (Nat.le_of_ble_eq_true rfl) ?_
        refine hr_aald ok_Qu_come rfl hR (kd := 27) (hs_k hR (a := 17) rfl) (by decide) (hs_ln hR rfl) hx25 (pc' := 81) rfl (Nat.le_of_ble_eq_true rfl) (Nat.le_of_ble_eq_true rfl) ?_
        show am_S _ _ _ _ _ _ _ (81, [some (.ref 16), some (.ref v1), some (.int v2)], [va_rf (s.2.2.2.2.2.2 17 j24), .int v2, .ref 17], h, 0, 0) _
        rw [show va_rf (s.2.2.2.2.2.2 17 j24) = .ref b27 from congrArg va_rf hb28]
        show am_S _ _ _ _ _ _ _ (81, [some (.ref 16), some (.ref v1), some (.int v2)], [.ref b27, .int v2, .ref 17], h, 0, 0) _
        obtain ⟨j32, hx33, hd34⟩ := Option.bind_eq_some_iff.mp hd; clear hd; have hd := hd34; clear hd34
        refine hr_aast ok_Qu_come rfl hR (kd := 27) (hs_k hR (a := 17) rfl) (by decide) (hs_ln hR rfl) hx33 (o := (some b27)) (fun _ hz => by cases hz; exact hk30) (pc' := 82) rfl (Nat.le_of_ble_eq_true rfl) (Nat.le_of_ble_eq_true rfl) (fun h35 hR36 g37 => ?_)
        have f38 := hF.tr f g37
        refine am_steps ok_Qu_come 2 (x' := (46, [some (.ref 16), some (.ref v1), some (.int (v2 + (-1)))], [], h35, 0, 0)) rfl (Nat.le_of_ble_eq_true rfl) (Nat.le_of_ble_eq_true rfl) ?_
        exact ih v1 (v2 + (-1)) (hpQ s 17 j32 (some b27)) h35 hR36 f38 he hv1 q hd kk
def h_Qu_come (a : Nat) (S : hS) : Option (hS) := (h_Qu_isFull  S).bind fun q1 => (if (q1 : Int32) = 0 then ((h_In_awaitsNobody a S).bind fun q10 => (if ¬ (q10 : Int32) = 0 then ((hl_Qu_come_46 100000 a (S.2.1 1101 16) (hpI S 704 a 1)).bind fun q39 => ((am_ix q39.1 250).bind fun j46 => (some (hpI (hpQ q39.2 17 j46 (some a)) 1101 16 ((q39.2.2.1 1101 16) + 1))))) else ((am_ix (S.2.1 1103 16) 250).bind fun j57 => (some (hpI (hpQ S 18 j57 (some a)) 1103 16 ((S.2.1 1103 16) + 1)))))) else (some S))
set_option maxHeartbeats 4000000 in
set_option maxRecDepth 100000 in
theorem c_Qu_come (a : Nat) (S : hS) (h0 : am_H) (hR : RH S h0) (ha : hK S.1 a 7) (q : hS) (hd : h_Qu_come a S = some q) : am_Me am_Pr none 1 20 0 0 212 [.ref 16, .ref a] h0 (hQv q S.1 h0) := by
  refine am_enter (d := hd_Qu_come) rfl (by decide +kernel) (Nat.le_of_ble_eq_true rfl) ?_
  show am_S _ _ _ _ _ _ _ (0, [some (.ref 16), some (.ref a), none], [], h0, 0, 0) _
  unfold h_Qu_come at hd
  refine am_steps ok_Qu_come 1 (x' := (1, [some (.ref 16), some (.ref a), none], [.ref 16], h0, 0, 0)) rfl (Nat.le_of_ble_eq_true rfl) (Nat.le_of_ble_eq_true rfl) ?_
  obtain ⟨q1, hq2, hd3⟩ := Option.bind_eq_some_iff.mp hd; clear hd; have hd := hd3; clear hd3
  refine ar_cv ok_Qu_come hk_Qu_isFull rfl rfl (As := []) (ad := 16) (rest := []) rfl rfl (hR.ob (hs_k hR (a := 16) rfl) (Nat.le_of_ble_eq_true rfl)) (Nat.le_of_ble_eq_true rfl) (c_Qu_isFull  S h0 hR  q1 hq2) (Nat.le_of_ble_eq_true rfl) (Nat.le_of_ble_eq_true rfl) (Nat.le_of_ble_eq_true rfl) (Nat.le_of_ble_eq_true rfl) (pc' := 4) rfl (fun r4 h6 z5 => ?_)
  obtain ⟨rfl, z8⟩ := z5; rw [z8]
  show am_S _ _ _ _ _ _ _ (4, [some (.ref 16), some (.ref a), none], [.int q1], h0, 0, 0) _
  refine am_steps ok_Qu_come 1 (x' := (if (q1 : Int32) = 0 then 8 else 7, [some (.ref 16), some (.ref a), none], [], h0, 0, 0)) rfl (Nat.le_of_ble_eq_true rfl) (Nat.le_of_ble_eq_true rfl) ?_
  refine am_if (fun hc9 => ?_) (fun hc9 => ?_)
  · rw [if_pos hc9] at hd
    refine am_steps ok_Qu_come 1 (x' := (9, [some (.ref 16), some (.ref a), none], [.ref a], h0, 0, 0)) rfl (Nat.le_of_ble_eq_true rfl) (Nat.le_of_ble_eq_true rfl) ?_
    obtain ⟨q10, hq11, hd12⟩ := Option.bind_eq_some_iff.mp hd; clear hd; have hd := hd12; clear hd12
    refine ar_cv ok_Qu_come hk_In_awaitsNobody rfl rfl (As := []) (ad := a) (rest := []) rfl rfl (hR.ob ha (Nat.le_of_ble_eq_true rfl)) (Nat.le_of_ble_eq_true rfl) (c_In_awaitsNobody a S h0 hR ha q10 hq11) (Nat.le_of_ble_eq_true rfl) (Nat.le_of_ble_eq_true rfl) (Nat.le_of_ble_eq_true rfl) (Nat.le_of_ble_eq_true rfl) (pc' := 12) rfl (fun r13 h15 z14 => ?_)
    obtain ⟨rfl, z17⟩ := z14; rw [z17]
    show am_S _ _ _ _ _ _ _ (12, [some (.ref 16), some (.ref a), none], [.int q10], h0, 0, 0) _
    refine am_steps ok_Qu_come 1 (x' := (if ¬ (q10 : Int32) = 0 then 36 else 15, [some (.ref 16), some (.ref a), none], [], h0, 0, 0)) rfl (Nat.le_of_ble_eq_true rfl) (Nat.le_of_ble_eq_true rfl) ?_
    refine am_if (fun hc18 => ?_) (fun hc18 => ?_)
    · rw [if_pos hc18] at hd
      refine am_steps ok_Qu_come 2 (x' := (38, [some (.ref 16), some (.ref a), none], [.int 1, .ref a], h0, 0, 0)) rfl (Nat.le_of_ble_eq_true rfl) (Nat.le_of_ble_eq_true rfl) ?_
      refine hr_put ok_Qu_come rfl hR (kd := 7) ha rfl (Nat.le_of_ble_eq_true rfl) (Nat.le_of_ble_eq_true rfl) rfl (S' := (hpI S 704 a 1)) rfl (hWT.up hR.2.2 rfl rfl rfl) (pc' := 41) rfl (Nat.le_of_ble_eq_true rfl) (Nat.le_of_ble_eq_true rfl) (fun h19 hR20 g21 => ?_)
      have f22 := hF.tr hF.rf g21
      refine am_steps ok_Qu_come 1 (x' := (42, [some (.ref 16), some (.ref a), none], [.ref 16], h19, 0, 0)) rfl (Nat.le_of_ble_eq_true rfl) (Nat.le_of_ble_eq_true rfl) ?_
      refine hr_get ok_Qu_come rfl hR20 (kd := 11) (hs_k hR20 (a := 16) rfl) rfl (Nat.le_of_ble_eq_true rfl) (Nat.le_of_ble_eq_true rfl) (v := .int (S.2.1 1101 16)) rfl (pc' := 45) rfl (Nat.le_of_ble_eq_true rfl) (Nat.le_of_ble_eq_true rfl) ?_
      refine am_steps ok_Qu_come 1 (x' := (46, [some (.ref 16), some (.ref a), some (.int (S.2.1 1101 16))], [], h19, 0, 0)) rfl (Nat.le_of_ble_eq_true rfl) (Nat.le_of_ble_eq_true rfl) ?_
      obtain ⟨q39, hq40, hd41⟩ := Option.bind_eq_some_iff.mp hd; clear hd; have hd := hd41; clear hd41
      refine Lc_Qu_come_46 S.1 h0 100000 a (S.2.1 1101 16) (hpI S 704 a 1) h19 hR20 f22 hE.rf ha q39 hq40 (fun h42 hR43 f44 e45 => ?_)
      show am_S _ _ _ _ _ _ _ (88, [some (.ref 16), some (.ref a), some (.int q39.1)], [], h42, 0, 0) _
      refine am_steps ok_Qu_come 1 (x' := (89, [some (.ref 16), some (.ref a), some (.int q39.1)], [.ref 16], h42, 0, 0)) rfl (Nat.le_of_ble_eq_true rfl) (Nat.le_of_ble_eq_true rfl) ?_
      refine hr_get ok_Qu_come rfl hR43 (kd := 11) (hs_k hR43 (a := 16) rfl) rfl (Nat.le_of_ble_eq_true rfl) (Nat.le_of_ble_eq_true rfl) (v := .ref 17) (congrArg va_rf (hR43.2.2.2.2.1 (1100, 16, 17) (by decide))) (pc' := 92) rfl (Nat.le_of_ble_eq_true rfl) (Nat.le_of_ble_eq_true rfl) ?_
      refine am_steps ok_Qu_come 2 (x' := (94, [some (.ref 16), some (.ref a), some (.int q39.1)], [.ref a, .int q39.1, .ref 17], h42, 0, 0)) rfl (Nat.le_of_ble_eq_true rfl) (Nat.le_of_ble_eq_true rfl) ?_
      obtain ⟨j46, hx47, hd48⟩ := Option.bind_eq_some_iff.mp hd; clear hd; have hd := hd48; clear hd48
      refine hr_aast ok_Qu_come rfl hR43 (kd := 27) (hs_k hR43 (a := 17) rfl) (by decide) (hs_ln hR43 rfl) hx47 (o := (some a)) (fun _ hz => by cases hz; exact (ha.up e45)) (pc' := 95) rfl (Nat.le_of_ble_eq_true rfl) (Nat.le_of_ble_eq_true rfl) (fun h49 hR50 g51 => ?_)
      have f52 := hF.tr f44 g51
      refine am_steps ok_Qu_come 2 (x' := (97, [some (.ref 16), some (.ref a), some (.int q39.1)], [.ref 16, .ref 16], h49, 0, 0)) rfl (Nat.le_of_ble_eq_true rfl) (Nat.le_of_ble_eq_true rfl) ?_
      refine hr_get ok_Qu_come rfl hR50 (kd := 11) (hs_k hR50 (a := 16) rfl) rfl (Nat.le_of_ble_eq_true rfl) (Nat.le_of_ble_eq_true rfl) (v := .int (q39.2.2.1 1101 16)) rfl (pc' := 100) rfl (Nat.le_of_ble_eq_true rfl) (Nat.le_of_ble_eq_true rfl) ?_
      refine am_steps ok_Qu_come 2 (x' := (102, [some (.ref 16), some (.ref a), some (.int q39.1)], [.int ((q39.2.2.1 1101 16) + 1), .ref 16], h49, 0, 0)) rfl (Nat.le_of_ble_eq_true rfl) (Nat.le_of_ble_eq_true rfl) ?_
      refine hr_put ok_Qu_come rfl hR50 (kd := 11) (hs_k hR50 (a := 16) rfl) rfl (Nat.le_of_ble_eq_true rfl) (Nat.le_of_ble_eq_true rfl) rfl (S' := (hpI (hpQ q39.2 17 j46 (some a)) 1101 16 ((q39.2.2.1 1101 16) + 1))) rfl (hWT.up hR50.2.2 rfl rfl rfl) (pc' := 105) rfl (Nat.le_of_ble_eq_true rfl) (Nat.le_of_ble_eq_true rfl) (fun h53 hR54 g55 => ?_)
      have f56 := hF.tr f52 g55
      cases hd; exact am_ret ok_Qu_come rfl (Nat.le_of_ble_eq_true rfl) (Nat.le_of_ble_eq_true rfl) ⟨rfl, hR54, f56, (hE.rf.tr e45)⟩
    · rw [if_neg hc18] at hd
      refine am_steps ok_Qu_come 1 (x' := (16, [some (.ref 16), some (.ref a), none], [.ref 16], h0, 0, 0)) rfl (Nat.le_of_ble_eq_true rfl) (Nat.le_of_ble_eq_true rfl) ?_
      refine hr_get ok_Qu_come rfl hR (kd := 11) (hs_k hR (a := 16) rfl) rfl (Nat.le_of_ble_eq_true rfl) (Nat.le_of_ble_eq_true rfl) (v := .ref 18) (congrArg va_rf (hR.2.2.2.2.1 (1102, 16, 18) (by decide))) (pc' := 19) rfl (Nat.le_of_ble_eq_true rfl) (Nat.le_of_ble_eq_true rfl) ?_
      refine am_steps ok_Qu_come 1 (x' := (20, [some (.ref 16), some (.ref a), none], [.ref 16, .ref 18], h0, 0, 0)) rfl (Nat.le_of_ble_eq_true rfl) (Nat.le_of_ble_eq_true rfl) ?_
      refine hr_get ok_Qu_come rfl hR (kd := 11) (hs_k hR (a := 16) rfl) rfl (Nat.le_of_ble_eq_true rfl) (Nat.le_of_ble_eq_true rfl) (v := .int (S.2.1 1103 16)) rfl (pc' := 23) rfl (Nat.le_of_ble_eq_true rfl) (Nat.le_of_ble_eq_true rfl) ?_
      refine am_steps ok_Qu_come 1 (x' := (24, [some (.ref 16), some (.ref a), none], [.ref a, .int (S.2.1 1103 16), .ref 18], h0, 0, 0)) rfl (Nat.le_of_ble_eq_true rfl) (Nat.le_of_ble_eq_true rfl) ?_
      obtain ⟨j57, hx58, hd59⟩ := Option.bind_eq_some_iff.mp hd; clear hd; have hd := hd59; clear hd59
      refine hr_aast ok_Qu_come rfl hR (kd := 27) (hs_k hR (a := 18) rfl) (by decide) (hs_ln hR rfl) hx58 (o := (some a)) (fun _ hz => by cases hz; exact ha) (pc' := 25) rfl (Nat.le_of_ble_eq_true rfl) (Nat.le_of_ble_eq_true rfl) (fun h60 hR61 g62 => ?_)
      have f63 := hF.tr hF.rf g62
      refine am_steps ok_Qu_come 2 (x' := (27, [some (.ref 16), some (.ref a), none], [.ref 16, .ref 16], h60, 0, 0)) rfl (Nat.le_of_ble_eq_true rfl) (Nat.le_of_ble_eq_true rfl) ?_
      refine hr_get ok_Qu_come rfl hR61 (kd := 11) (hs_k hR61 (a := 16) rfl) rfl (Nat.le_of_ble_eq_true rfl) (Nat.le_of_ble_eq_true rfl) (v := .int (S.2.1 1103 16)) rfl (pc' := 30) rfl (Nat.le_of_ble_eq_true rfl) (Nat.le_of_ble_eq_true rfl) ?_
      refine am_steps ok_Qu_come 2 (x' := (32, [some (.ref 16), some (.ref a), none], [.int ((S.2.1 1103 16) + 1), .ref 16], h60, 0, 0)) rfl (Nat.le_of_ble_eq_true rfl) (Nat.le_of_ble_eq_true rfl) ?_
      refine hr_put ok_Qu_come rfl hR61 (kd := 11) (hs_k hR61 (a := 16) rfl) rfl (Nat.le_of_ble_eq_true rfl) (Nat.le_of_ble_eq_true rfl) rfl (S' := (hpI (hpQ S 18 j57 (some a)) 1103 16 ((S.2.1 1103 16) + 1))) rfl (hWT.up hR61.2.2 rfl rfl rfl) (pc' := 35) rfl (Nat.le_of_ble_eq_true rfl) (Nat.le_of_ble_eq_true rfl) (fun h64 hR65 g66 => ?_)
      have f67 := hF.tr f63 g66
      cases hd; exact am_ret ok_Qu_come rfl (Nat.le_of_ble_eq_true rfl) (Nat.le_of_ble_eq_true rfl) ⟨rfl, hR65, f67, hE.rf⟩
  · rw [if_neg hc9] at hd
    cases hd; exact am_ret ok_Qu_come rfl (Nat.le_of_ble_eq_true rfl) (Nat.le_of_ble_eq_true rfl) ⟨rfl, hR, hF.rf, hE.rf⟩
def hl_De_pay_15 : Nat → Nat → Int32 → hS → Option (hS)
  | 0, _, _, _ => none
  | fu + 1, v2, v3, s => if ((s.2.1 812 2) : Int32) ≤ v3 then (some s) else ((h_De_addLeg v2 v3 s).bind fun q22 => (hl_De_pay_15 fu v2 (v3 + 1) q22))
set_option maxHeartbeats 4000000 in
set_option maxRecDepth 100000 in
theorem Lc_De_pay_15 {Q : Option Value → am_H → Prop} (sh0 : List (Nat × Nat)) (h0 : am_H) : ∀ (fu : Nat) (k n : Nat), k + fu * 6 ≤ 34 → n + fu * 840 ≤ 4247 → ∀ (v2 : Nat) (v3 : Int32) (s : hS) (h : am_H), RH s h → hF h0 h → hE sh0 s.1 → (hK s.1 v2 7) → ∀ q : hS, hl_De_pay_15 fu v2 v3 s = some q → (∀ h' : am_H, RH q h' → hF h0 h' → hE sh0 q.1 → am_S am_Pr none 9 203 34 4247 156 (36, [some (.ref 20), some (.ref 2), some (.ref v2), none], [], h', 34, 4247) Q) → am_S am_Pr none 9 203 34 4247 156 (15, [some (.ref 20), some (.ref 2), some (.ref v2), some (.int v3)], [], h, k, n) Q := by
  intro fu
  induction fu with
  | zero => intro k n hk1 hn1 v2 v3 s h hR f he hv2 q hd; cases hd
  | succ fu ih =>
    intro k n hk1 hn1 v2 v3 s h hR f he hv2 q hd kk
    unfold hl_De_pay_15 at hd
    refine am_steps ok_De_pay 2 (x' := (17, [some (.ref 20), some (.ref 2), some (.ref v2), some (.int v3)], [.ref 2, .int v3], h, k, n)) rfl (by rw [Nat.succ_mul] at hk1; (try dsimp only); omega) (by rw [Nat.succ_mul] at hn1; (try dsimp only); omega) ?_
    refine hr_get ok_De_pay rfl hR (kd := 8) (hs_k hR (a := 2) rfl) rfl (Nat.le_of_ble_eq_true rfl) (Nat.le_of_ble_eq_true rfl) (v := .int (s.2.1 812 2)) rfl (pc' := 20) rfl (by rw [Nat.succ_mul] at hk1; (try dsimp only); omega) (by rw [Nat.succ_mul] at hn1; (try dsimp only); omega) ?_
    refine am_steps ok_De_pay 1 (x' := (if ((s.2.1 812 2) : Int32) ≤ v3 then 36 else 23, [some (.ref 20), some (.ref 2), some (.ref v2), some (.int v3)], [], h, k, n)) rfl (by rw [Nat.succ_mul] at hk1; (try dsimp only); omega) (by rw [Nat.succ_mul] at hn1; (try dsimp only); omega) ?_
    refine am_if (fun hc21 => ?_) (fun hc21 => ?_)
    · rw [if_pos hc21] at hd
      refine am_drop 3 ?_
      refine am_wide (k' := 34) (n' := 4247) (by omega) (by omega) ?_
      cases hd; exact kk h hR f he 
    · rw [if_neg hc21] at hd
      refine am_steps ok_De_pay 4 (x' := (27, [some (.ref 20), some (.ref 2), some (.ref v2), some (.int v3)], [.int v3, .ref 2, .ref v2, .ref 20], h, k, n)) rfl (by rw [Nat.succ_mul] at hk1; (try dsimp only); omega) (by rw [Nat.succ_mul] at hn1; (try dsimp only); omega) ?_
      obtain ⟨q22, hq23, hd24⟩ := Option.bind_eq_some_iff.mp hd; clear hd; have hd := hd24; clear hd24
      refine ar_cv ok_De_pay hk_De_addLeg rfl rfl (As := [.ref v2, .ref 2, .int v3]) (ad := 20) (rest := []) rfl rfl (hR.ob (hs_k hR (a := 20) rfl) (Nat.le_of_ble_eq_true rfl)) (Nat.le_of_ble_eq_true rfl) (c_De_addLeg v2 v3 s h hR hv2 q22 hq23) (Nat.le_of_ble_eq_true rfl) (Nat.le_of_ble_eq_true rfl) (by rw [Nat.succ_mul] at hk1; (try dsimp only); omega) (by rw [Nat.succ_mul] at hn1; (try dsimp only); omega) (pc' := 30) rfl (fun r25 h27 z26 => ?_)
      obtain ⟨rfl, hR29, g30, e31⟩ := z26
      have f32 := hF.tr f g30
      show am_S _ _ _ _ _ _ _ (30, [some (.ref 20), some (.ref 2), some (.ref v2), some (.int v3)], [], h27, (k + 6), (n + 840)) _
      refine am_steps ok_De_pay 2 (x' := (15, [some (.ref 20), some (.ref 2), some (.ref v2), some (.int (v3 + 1))], [], h27, (k + 6), (n + 840))) rfl (by rw [Nat.succ_mul] at hk1; (try dsimp only); omega) (by rw [Nat.succ_mul] at hn1; (try dsimp only); omega) ?_
      exact ih ((k + 6)) ((n + 840)) (by rw [Nat.succ_mul] at hk1; omega) (by rw [Nat.succ_mul] at hn1; omega) v2 (v3 + 1) q22 h27 hR29 f32 (he.tr e31) (hv2.up e31) q hd kk
def h_De_pay  (S : hS) : Option (Nat × hS) := (hs_al S).bind fun a1 => ((h_In_init a1 ((hNew S 7 0).2.1 812 2) (hNew S 7 0)).bind fun q10 => ((hl_De_pay_15 5 a1 0 q10).bind fun q33 => ((h_Qu_come a1 q33).bind fun q40 => (some (a1, q40)))))
set_option maxHeartbeats 4000000 in
set_option maxRecDepth 100000 in
theorem c_De_pay  (S : hS) (h0 : am_H) (hR : RH S h0)  (q : Nat × hS) (hd : h_De_pay  S = some q) : am_Me am_Pr none 9 203 34 4247 156 [.ref 20, .ref 2] h0 (hQo (.ref q.1) (some q.1) 7 q.2 S.1 h0) := by
  refine am_enter (d := hd_De_pay) rfl (by decide +kernel) (Nat.le_of_ble_eq_true rfl) ?_
  show am_S _ _ _ _ _ _ _ (0, [some (.ref 20), some (.ref 2), none, none], [], h0, 0, 0) _
  unfold h_De_pay at hd
  obtain ⟨a1, ha2, hd3⟩ := Option.bind_eq_some_iff.mp hd; clear hd; have hd := hd3; clear hd3
  refine hr_new ok_De_pay rfl hR (kd := 7) rfl (Nat.le_of_ble_eq_true rfl) (Nat.le_of_ble_eq_true rfl) (hs_al1 ha2) (hs_al2 ha2) (pc' := 3) rfl (k' := 1) rfl (n' := 11) rfl (Nat.le_of_ble_eq_true rfl) (Nat.le_of_ble_eq_true rfl) (fun h4 hR5 g6 => ?_)
  have f7 := hF.tr hF.rf g6
  have e8 := hNew_E S 7 0
  have hk9 := hs_al3 ha2 (hNew_K S 7 0)
  refine am_steps ok_De_pay 3 (x' := (6, [some (.ref 20), some (.ref 2), none, none], [.ref 2, .ref 2, .ref a1, .ref a1], h4, 1, 11)) rfl (Nat.le_of_ble_eq_true rfl) (Nat.le_of_ble_eq_true rfl) ?_
  refine hr_get ok_De_pay rfl hR5 (kd := 8) (hs_k hR5 (a := 2) rfl) rfl (Nat.le_of_ble_eq_true rfl) (Nat.le_of_ble_eq_true rfl) (v := .int ((hNew S 7 0).2.1 812 2)) rfl (pc' := 9) rfl (Nat.le_of_ble_eq_true rfl) (Nat.le_of_ble_eq_true rfl) ?_
  obtain ⟨q10, hq11, hd12⟩ := Option.bind_eq_some_iff.mp hd; clear hd; have hd := hd12; clear hd12
  refine am_call ok_De_pay hk_In_init rfl (args' := [.ref a1, .ref 2, .int ((hNew S 7 0).2.1 812 2)]) (rest := [.ref a1]) rfl (c_In_init a1 ((hNew S 7 0).2.1 812 2) (hNew S 7 0) h4 hR5 hk9 q10 hq11) (Nat.le_of_ble_eq_true rfl) (Nat.le_of_ble_eq_true rfl) (Nat.le_of_ble_eq_true rfl) (Nat.le_of_ble_eq_true rfl) (fun r13 h15 z14 => ?_)
  obtain ⟨rfl, hR17, g18, e19⟩ := z14
  have f20 := hF.tr f7 g18
  show am_S _ _ _ _ _ _ _ (12, [some (.ref 20), some (.ref 2), none, none], [.ref a1], h15, 4, 47) _
  refine am_steps ok_De_pay 3 (x' := (15, [some (.ref 20), some (.ref 2), some (.ref a1), some (.int 0)], [], h15, 4, 47)) rfl (Nat.le_of_ble_eq_true rfl) (Nat.le_of_ble_eq_true rfl) ?_
  obtain ⟨q33, hq34, hd35⟩ := Option.bind_eq_some_iff.mp hd; clear hd; have hd := hd35; clear hd35
  refine Lc_De_pay_15 q10.1 h0 5 4 47 (Nat.le_of_ble_eq_true rfl) (Nat.le_of_ble_eq_true rfl) a1 0 q10 h15 hR17 f20 hE.rf (hk9.up e19) q33 hq34 (fun h36 hR37 f38 e39 => ?_)
  show am_S _ _ _ _ _ _ _ (36, [some (.ref 20), some (.ref 2), some (.ref a1), none], [], h36, 34, 4247) _
  refine am_steps ok_De_pay 1 (x' := (37, [some (.ref 20), some (.ref 2), some (.ref a1), none], [.ref 20], h36, 34, 4247)) rfl (Nat.le_of_ble_eq_true rfl) (Nat.le_of_ble_eq_true rfl) ?_
  refine hr_get ok_De_pay rfl hR37 (kd := 5) (hs_k hR37 (a := 20) rfl) rfl (Nat.le_of_ble_eq_true rfl) (Nat.le_of_ble_eq_true rfl) (v := .ref 16) (congrArg va_rf (hR37.2.2.2.2.1 (501, 20, 16) (by decide))) (pc' := 40) rfl (Nat.le_of_ble_eq_true rfl) (Nat.le_of_ble_eq_true rfl) ?_
  refine am_steps ok_De_pay 1 (x' := (41, [some (.ref 20), some (.ref 2), some (.ref a1), none], [.ref a1, .ref 16], h36, 34, 4247)) rfl (Nat.le_of_ble_eq_true rfl) (Nat.le_of_ble_eq_true rfl) ?_
  obtain ⟨q40, hq41, hd42⟩ := Option.bind_eq_some_iff.mp hd; clear hd; have hd := hd42; clear hd42
  refine ar_cv ok_De_pay hk_Qu_come rfl rfl (As := [.ref a1]) (ad := 16) (rest := []) rfl rfl (hR37.ob (hs_k hR37 (a := 16) rfl) (Nat.le_of_ble_eq_true rfl)) (Nat.le_of_ble_eq_true rfl) (c_Qu_come a1 q33 h36 hR37 ((hk9.up e19).up e39) q40 hq41) (Nat.le_of_ble_eq_true rfl) (Nat.le_of_ble_eq_true rfl) (Nat.le_of_ble_eq_true rfl) (Nat.le_of_ble_eq_true rfl) (pc' := 44) rfl (fun r43 h45 z44 => ?_)
  obtain ⟨rfl, hR47, g48, e49⟩ := z44
  have f50 := hF.tr f38 g48
  show am_S _ _ _ _ _ _ _ (44, [some (.ref 20), some (.ref 2), some (.ref a1), none], [], h45, 34, 4247) _
  refine am_steps ok_De_pay 1 (x' := (45, [some (.ref 20), some (.ref 2), some (.ref a1), none], [.ref a1], h45, 34, 4247)) rfl (Nat.le_of_ble_eq_true rfl) (Nat.le_of_ble_eq_true rfl) ?_
  cases hd; exact am_ret ok_De_pay rfl (Nat.le_of_ble_eq_true rfl) (Nat.le_of_ble_eq_true rfl) ⟨rfl, (fun _ hz => by cases hz; exact (((hk9.up e19).up e39).up e49)), hR47, f50, ((((hE.rf.tr e8).tr e19).tr e39).tr e49)⟩
def hl_In_confirmBy_2 : Nat → Nat → Int32 → Int32 → hS → Option (hS)
  | 0, _, _, _, _ => none
  | fu + 1, v0, v1, v2, s => if ((s.2.1 707 v0) : Int32) ≤ v2 then (some s) else (((s.2.2.2.1 706 v0)).bind fun b2 => ((am_ix v2 (hln s.1 b2)).bind fun j6 => (if ¬ ((s.2.2.2.2.1 b2 j6) : Int32) = v1 then (hl_In_confirmBy_2 fu v0 v1 (v2 + 1) s) else ((am_ix ((hpI s 707 v0 ((s.2.1 707 v0) - 1)).2.1 707 v0) (hln s.1 b2)).bind fun j14 => (some (hpA (hpI s 707 v0 ((s.2.1 707 v0) - 1)) b2 j6 (s.2.2.2.2.1 b2 j14)))))))
set_option maxHeartbeats 4000000 in
set_option maxRecDepth 100000 in
theorem Lc_In_confirmBy_2 (sh0 : List (Nat × Nat)) (h0 : am_H) : ∀ (fu : Nat) (v0 : Nat) (v1 : Int32) (v2 : Int32) (s : hS) (h : am_H), RH s h → hF h0 h → hE sh0 s.1 → (hK s.1 v0 7) → ∀ q : hS, hl_In_confirmBy_2 fu v0 v1 v2 s = some q → am_S am_Pr none 0 0 0 0 172 (2, [some (.ref v0), some (.int v1), some (.int v2)], [], h, 0, 0) (hQv q sh0 h0) := by
  intro fu
  induction fu with
  | zero => intro v0 v1 v2 s h hR f he hv0 q hd; cases hd
  | succ fu ih =>
    intro v0 v1 v2 s h hR f he hv0 q hd
    unfold hl_In_confirmBy_2 at hd
    refine am_steps ok_In_confirmBy 2 (x' := (4, [some (.ref v0), some (.int v1), some (.int v2)], [.ref v0, .int v2], h, 0, 0)) rfl (Nat.le_of_ble_eq_true rfl) (Nat.le_of_ble_eq_true rfl) ?_
    refine hr_get ok_In_confirmBy rfl hR (kd := 7) hv0 rfl (Nat.le_of_ble_eq_true rfl) (Nat.le_of_ble_eq_true rfl) (v := .int (s.2.1 707 v0)) rfl (pc' := 7) rfl (Nat.le_of_ble_eq_true rfl) (Nat.le_of_ble_eq_true rfl) ?_
    refine am_steps ok_In_confirmBy 1 (x' := (if ((s.2.1 707 v0) : Int32) ≤ v2 then 52 else 10, [some (.ref v0), some (.int v1), some (.int v2)], [], h, 0, 0)) rfl (Nat.le_of_ble_eq_true rfl) (Nat.le_of_ble_eq_true rfl) ?_
    refine am_if (fun hc1 => ?_) (fun hc1 => ?_)
    · rw [if_pos hc1] at hd
      cases hd; exact am_ret ok_In_confirmBy rfl (Nat.le_of_ble_eq_true rfl) (Nat.le_of_ble_eq_true rfl) ⟨rfl, hR, f, he⟩
    · rw [if_neg hc1] at hd
      refine am_steps ok_In_confirmBy 1 (x' := (11, [some (.ref v0), some (.int v1), some (.int v2)], [.ref v0], h, 0, 0)) rfl (Nat.le_of_ble_eq_true rfl) (Nat.le_of_ble_eq_true rfl) ?_
      refine hr_get ok_In_confirmBy rfl hR (kd := 7) hv0 rfl (Nat.le_of_ble_eq_true rfl) (Nat.le_of_ble_eq_true rfl) (v := va_rf (s.2.2.2.1 706 v0)) rfl (pc' := 14) rfl (Nat.le_of_ble_eq_true rfl) (Nat.le_of_ble_eq_true rfl) ?_
      refine am_steps ok_In_confirmBy 1 (x' := (15, [some (.ref v0), some (.int v1), some (.int v2)], [.int v2, va_rf (s.2.2.2.1 706 v0)], h, 0, 0)) rfl (Nat.le_of_ble_eq_true rfl) (Nat.le_of_ble_eq_true rfl) ?_
      obtain ⟨b2, hb3, hd4⟩ := Option.bind_eq_some_iff.mp hd; clear hd; have hd := hd4; clear hd4
      have hk5 := (fun b hb => hR.2.2.1 706 _ b hb) b2 hb3
      rw [hb3]
      show am_S _ _ _ _ _ _ _ (15, [some (.ref v0), some (.int v1), some (.int v2)], [.int v2, .ref b2], h, 0, 0) _
      obtain ⟨j6, hx7, hd8⟩ := Option.bind_eq_some_iff.mp hd; clear hd; have hd := hd8; clear hd8
      refine hr_iald ok_In_confirmBy rfl hR hk5 rfl hx7 (pc' := 16) rfl (Nat.le_of_ble_eq_true rfl) (Nat.le_of_ble_eq_true rfl) ?_
      refine am_steps ok_In_confirmBy 2 (x' := (if ¬ ((s.2.2.2.2.1 b2 j6) : Int32) = v1 then 46 else 20, [some (.ref v0), some (.int v1), some (.int v2)], [], h, 0, 0)) rfl (Nat.le_of_ble_eq_true rfl) (Nat.le_of_ble_eq_true rfl) ?_
      refine am_if (fun hc9 => ?_) (fun hc9 => ?_)
      · rw [if_pos hc9] at hd
        refine am_steps ok_In_confirmBy 2 (x' := (2, [some (.ref v0), some (.int v1), some (.int (v2 + 1))], [], h, 0, 0)) rfl (Nat.le_of_ble_eq_true rfl) (Nat.le_of_ble_eq_true rfl) ?_
        exact ih v0 v1 (v2 + 1) s h hR f he hv0 q hd
      · rw [if_neg hc9] at hd
        refine am_steps ok_In_confirmBy 2 (x' := (22, [some (.ref v0), some (.int v1), some (.int v2)], [.ref v0, .ref v0], h, 0, 0)) rfl (Nat.le_of_ble_eq_true rfl) (Nat.le_of_ble_eq_true rfl) ?_
        refine hr_get ok_In_confirmBy rfl hR (kd := 7) hv0 rfl (Nat.le_of_ble_eq_true rfl) (Nat.le_of_ble_eq_true rfl) (v := .int (s.2.1 707 v0)) rfl (pc' := 25) rfl (Nat.le_of_ble_eq_true rfl) (Nat.le_of_ble_eq_true rfl) ?_
        refine am_steps ok_In_confirmBy 2 (x' := (27, [some (.ref v0), some (.int v1), some (.int v2)], [.int ((s.2.1 707 v0) - 1), .ref v0], h, 0, 0)) rfl (Nat.le_of_ble_eq_true rfl) (Nat.le_of_ble_eq_true rfl) ?_
        refine hr_put ok_In_confirmBy rfl hR (kd := 7) hv0 rfl (Nat.le_of_ble_eq_true rfl) (Nat.le_of_ble_eq_true rfl) rfl (S' := (hpI s 707 v0 ((s.2.1 707 v0) - 1))) rfl (hWT.up hR.2.2 rfl rfl rfl) (pc' := 30) rfl (Nat.le_of_ble_eq_true rfl) (Nat.le_of_ble_eq_true rfl) (fun h10 hR11 g12 => ?_)
        have f13 := hF.tr f g12
        refine am_steps ok_In_confirmBy 1 (x' := (31, [some (.ref v0), some (.int v1), some (.int v2)], [.ref v0], h10, 0, 0)) rfl (Nat.le_of_ble_eq_true rfl) (Nat.le_of_ble_eq_true rfl) ?_
        refine hr_get ok_In_confirmBy rfl hR11 (kd := 7) hv0 rfl (Nat.le_of_ble_eq_true rfl) (Nat.le_of_ble_eq_true rfl) (v := .ref b2) (congrArg va_rf hb3) (pc' := 34) rfl (Nat.le_of_ble_eq_true rfl) (Nat.le_of_ble_eq_true rfl) ?_
        refine am_steps ok_In_confirmBy 2 (x' := (36, [some (.ref v0), some (.int v1), some (.int v2)], [.ref v0, .int v2, .ref b2], h10, 0, 0)) rfl (Nat.le_of_ble_eq_true rfl) (Nat.le_of_ble_eq_true rfl) ?_
        refine hr_get ok_In_confirmBy rfl hR11 (kd := 7) hv0 rfl (Nat.le_of_ble_eq_true rfl) (Nat.le_of_ble_eq_true rfl) (v := .ref b2) (congrArg va_rf hb3) (pc' := 39) rfl (Nat.le_of_ble_eq_true rfl) (Nat.le_of_ble_eq_true rfl) ?_
        refine am_steps ok_In_confirmBy 1 (x' := (40, [some (.ref v0), some (.int v1), some (.int v2)], [.ref v0, .ref b2, .int v2, .ref b2], h10, 0, 0)) rfl (Nat.le_of_ble_eq_true rfl) (Nat.le_of_ble_eq_true rfl) ?_
        refine hr_get ok_In_confirmBy rfl hR11 (kd := 7) hv0 rfl (Nat.le_of_ble_eq_true rfl) (Nat.le_of_ble_eq_true rfl) (v := .int ((hpI s 707 v0 ((s.2.1 707 v0) - 1)).2.1 707 v0)) rfl (pc' := 43) rfl (Nat.le_of_ble_eq_true rfl) (Nat.le_of_ble_eq_true rfl) ?_
        obtain ⟨j14, hx15, hd16⟩ := Option.bind_eq_some_iff.mp hd; clear hd; have hd := hd16; clear hd16
        refine hr_iald ok_In_confirmBy rfl hR11 hk5 rfl hx15 (pc' := 44) rfl (Nat.le_of_ble_eq_true rfl) (Nat.le_of_ble_eq_true rfl) ?_
        show am_S _ _ _ _ _ _ _ (44, [some (.ref v0), some (.int v1), some (.int v2)], [.int (s.2.2.2.2.1 b2 j14), .int v2, .ref b2], h10, 0, 0) _
        refine hr_iast ok_In_confirmBy rfl hR11 hk5 rfl hx7 (pc' := 45) rfl (Nat.le_of_ble_eq_true rfl) (Nat.le_of_ble_eq_true rfl) (fun h17 hR18 g19 => ?_)
        have f20 := hF.tr f13 g19
        cases hd; exact am_ret ok_In_confirmBy rfl (Nat.le_of_ble_eq_true rfl) (Nat.le_of_ble_eq_true rfl) ⟨rfl, hR18, f20, he⟩
def h_In_confirmBy (a : Nat) (b : Int32) (S : hS) : Option (hS) := hl_In_confirmBy_2 100000 a b 0 S
set_option maxHeartbeats 4000000 in
set_option maxRecDepth 100000 in
theorem c_In_confirmBy (a : Nat) (b : Int32) (S : hS) (h0 : am_H) (hR : RH S h0) (ha : hK S.1 a 7) (q : hS) (hd : h_In_confirmBy a b S = some q) : am_Me am_Pr none 0 0 0 0 172 [.ref a, .int b] h0 (hQv q S.1 h0) := by
  refine am_enter (d := hd_In_confirmBy) rfl (by decide +kernel) (Nat.le_of_ble_eq_true rfl) ?_
  show am_S _ _ _ _ _ _ _ (0, [some (.ref a), some (.int b), none], [], h0, 0, 0) _
  unfold h_In_confirmBy at hd
  refine am_steps ok_In_confirmBy 2 (x' := (2, [some (.ref a), some (.int b), some (.int 0)], [], h0, 0, 0)) rfl (Nat.le_of_ble_eq_true rfl) (Nat.le_of_ble_eq_true rfl) ?_
  exact Lc_In_confirmBy_2 S.1 h0 100000 a b 0 S h0 hR hF.rf hE.rf ha q hd
def hl_Qu_takeOut_5 : Nat → Nat → Int32 → Nat → Int32 → Int32 → hS → Option (Int32 × hS)
  | 0, _, _, _, _, _, _ => none
  | fu + 1, v0, v1, v2, v3, v4, s => if (v1 : Int32) ≤ v4 then (some (v3, s)) else ((am_ix v4 (hln s.1 v0)).bind fun j2 => (((s.2.2.2.2.2.2 v0 j2)).bind fun b5 => ((if (some b5) = (some v2) then (some (v3, s)) else ((am_ix v3 (hln s.1 v0)).bind fun j18 => (some ((v3 + 1), (hpQ s v0 j18 (some b5)))))).bind fun (u9 : Int32 × hS) => (hl_Qu_takeOut_5 fu v0 v1 v2 u9.1 (v4 + 1) u9.2))))
set_option maxHeartbeats 4000000 in
set_option maxRecDepth 100000 in
theorem Lc_Qu_takeOut_5 {Q : Option Value → am_H → Prop} (sh0 : List (Nat × Nat)) (h0 : am_H) : ∀ (fu : Nat) (v0 : Nat) (v1 : Int32) (v2 : Nat) (v3 : Int32) (v4 : Int32) (s : hS) (h : am_H), RH s h → hF h0 h → hE sh0 s.1 → (hK s.1 v0 27) → (hK s.1 v2 7) → ∀ q : Int32 × hS, hl_Qu_takeOut_5 fu v0 v1 v2 v3 v4 s = some q → (∀ h' : am_H, RH q.2 h' → hF h0 h' → hE sh0 q.2.1 → am_S am_Pr none 0 0 0 0 214 (35, [some (.ref v0), some (.int v1), some (.ref v2), some (.int q.1), none], [], h', 0, 0) Q) → am_S am_Pr none 0 0 0 0 214 (5, [some (.ref v0), some (.int v1), some (.ref v2), some (.int v3), some (.int v4)], [], h, 0, 0) Q := by
  intro fu
  induction fu with
  | zero => intro v0 v1 v2 v3 v4 s h hR f he hv0 hv2 q hd; cases hd
  | succ fu ih =>
    intro v0 v1 v2 v3 v4 s h hR f he hv0 hv2 q hd kk
    unfold hl_Qu_takeOut_5 at hd
    refine am_steps ok_Qu_takeOut 3 (x' := (if (v1 : Int32) ≤ v4 then 35 else 11, [some (.ref v0), some (.int v1), some (.ref v2), some (.int v3), some (.int v4)], [], h, 0, 0)) rfl (Nat.le_of_ble_eq_true rfl) (Nat.le_of_ble_eq_true rfl) ?_
    refine am_if (fun hc1 => ?_) (fun hc1 => ?_)
    · rw [if_pos hc1] at hd
      refine am_drop 4 ?_
      cases hd; exact kk h hR f he 
    · rw [if_neg hc1] at hd
      refine am_steps ok_Qu_takeOut 2 (x' := (14, [some (.ref v0), some (.int v1), some (.ref v2), some (.int v3), some (.int v4)], [.int v4, .ref v0], h, 0, 0)) rfl (Nat.le_of_ble_eq_true rfl) (Nat.le_of_ble_eq_true rfl) ?_
      obtain ⟨j2, hx3, hd4⟩ := Option.bind_eq_some_iff.mp hd; clear hd; have hd := hd4; clear hd4
      refine hr_aald ok_Qu_takeOut rfl hR (kd := 27) hv0 (by decide) rfl hx3 (pc' := 15) rfl (Nat.le_of_ble_eq_true rfl) (Nat.le_of_ble_eq_true rfl) ?_
      refine am_steps ok_Qu_takeOut 1 (x' := (16, [some (.ref v0), some (.int v1), some (.ref v2), some (.int v3), some (.int v4)], [.ref v2, va_rf (s.2.2.2.2.2.2 v0 j2)], h, 0, 0)) rfl (Nat.le_of_ble_eq_true rfl) (Nat.le_of_ble_eq_true rfl) ?_
      obtain ⟨b5, hb6, hd7⟩ := Option.bind_eq_some_iff.mp hd; clear hd; have hd := hd7; clear hd7
      have hk8 := (fun b hb => hR.2.2.2.1 _ _ (hK.ln hv0) _ b hb) b5 hb6
      rw [hb6]
      show am_S _ _ _ _ _ _ _ (16, [some (.ref v0), some (.int v1), some (.ref v2), some (.int v3), some (.int v4)], [.ref v2, .ref b5], h, 0, 0) _
      refine hr_aceq ok_Qu_takeOut rfl hR (o := (some v2)) (w := (some b5)) (hs_bd hR (kd := 7) (fun _ hz => by cases hz; exact hv2)) (hs_bd hR (kd := 7) (fun _ hz => by cases hz; exact hk8)) (pc' := 19) rfl ?_
      obtain ⟨u9, hA11, hB12⟩ := Option.bind_eq_some_iff.mp hd; clear hd
      have K10 : ∀ h' : am_H, RH u9.2 h' → hF h0 h' → hE s.1 u9.2.1 → am_S am_Pr none 0 0 0 0 214 (29, [some (.ref v0), some (.int v1), some (.ref v2), some (.int u9.1), some (.int v4)], [], h', 0, 0) Q := by
        have hd := hB12
        intro h13 hR14 f15 e16
        refine am_steps ok_Qu_takeOut 2 (x' := (5, [some (.ref v0), some (.int v1), some (.ref v2), some (.int u9.1), some (.int (v4 + 1))], [], h13, 0, 0)) rfl (Nat.le_of_ble_eq_true rfl) (Nat.le_of_ble_eq_true rfl) ?_
        exact ih v0 v1 v2 u9.1 (v4 + 1) u9.2 h13 hR14 f15 (he.tr e16) (hv0.up e16) (hv2.up e16) q hd kk
      clear hB12; have hd := hA11; clear hA11
      refine am_if (fun hc17 => ?_) (fun hc17 => ?_)
      · rw [if_pos hc17] at hd
        cases hd; exact K10 h hR f hE.rf
      · rw [if_neg hc17] at hd
        refine am_steps ok_Qu_takeOut 4 (x' := (24, [some (.ref v0), some (.int v1), some (.ref v2), some (.int v3), some (.int v4)], [.int v4, .ref v0, .int v3, .ref v0], h, 0, 0)) rfl (Nat.le_of_ble_eq_true rfl) (Nat.le_of_ble_eq_true rfl) ?_
        refine hr_aald ok_Qu_takeOut rfl hR (kd := 27) hv0 (by decide) rfl hx3 (pc' := 25) rfl (Nat.le_of_ble_eq_true rfl) (Nat.le_of_ble_eq_true rfl) ?_
        show am_S _ _ _ _ _ _ _ (25, [some (.ref v0), some (.int v1), some (.ref v2), some (.int v3), some (.int v4)], [va_rf (s.2.2.2.2.2.2 v0 j2), .int v3, .ref v0], h, 0, 0) _
        rw [show va_rf (s.2.2.2.2.2.2 v0 j2) = .ref b5 from congrArg va_rf hb6]
        show am_S _ _ _ _ _ _ _ (25, [some (.ref v0), some (.int v1), some (.ref v2), some (.int v3), some (.int v4)], [.ref b5, .int v3, .ref v0], h, 0, 0) _
        obtain ⟨j18, hx19, hd20⟩ := Option.bind_eq_some_iff.mp hd; clear hd; have hd := hd20; clear hd20
        refine hr_aast ok_Qu_takeOut rfl hR (kd := 27) hv0 (by decide) rfl hx19 (o := (some b5)) (fun _ hz => by cases hz; exact hk8) (pc' := 26) rfl (Nat.le_of_ble_eq_true rfl) (Nat.le_of_ble_eq_true rfl) (fun h21 hR22 g23 => ?_)
        have f24 := hF.tr f g23
        refine am_steps ok_Qu_takeOut 1 (x' := (29, [some (.ref v0), some (.int v1), some (.ref v2), some (.int (v3 + 1)), some (.int v4)], [], h21, 0, 0)) rfl (Nat.le_of_ble_eq_true rfl) (Nat.le_of_ble_eq_true rfl) ?_
        cases hd; exact K10 h21 hR22 f24 hE.rf
def h_Qu_takeOut (a : Nat) (b : Int32) (c : Nat) (S : hS) : Option (Int32 × hS) := (hl_Qu_takeOut_5 100000 a b c 0 0 S).bind fun q25 => (some (q25.1, q25.2))
set_option maxHeartbeats 4000000 in
set_option maxRecDepth 100000 in
theorem c_Qu_takeOut (a : Nat) (b : Int32) (c : Nat) (S : hS) (h0 : am_H) (hR : RH S h0) (ha : hK S.1 a 27) (hc : hK S.1 c 7) (q : Int32 × hS) (hd : h_Qu_takeOut a b c S = some q) : am_Me am_Pr none 0 0 0 0 214 [.ref a, .int b, .ref c] h0 (hQr (.int q.1) q.2 S.1 h0) := by
  refine am_enter (d := hd_Qu_takeOut) rfl (by decide +kernel) (Nat.le_of_ble_eq_true rfl) ?_
  show am_S _ _ _ _ _ _ _ (0, [some (.ref a), some (.int b), some (.ref c), none, none], [], h0, 0, 0) _
  unfold h_Qu_takeOut at hd
  refine am_steps ok_Qu_takeOut 4 (x' := (5, [some (.ref a), some (.int b), some (.ref c), some (.int 0), some (.int 0)], [], h0, 0, 0)) rfl (Nat.le_of_ble_eq_true rfl) (Nat.le_of_ble_eq_true rfl) ?_
  obtain ⟨q25, hq26, hd27⟩ := Option.bind_eq_some_iff.mp hd; clear hd; have hd := hd27; clear hd27
  refine Lc_Qu_takeOut_5 S.1 h0 100000 a b c 0 0 S h0 hR hF.rf hE.rf ha hc q25 hq26 (fun h28 hR29 f30 e31 => ?_)
  show am_S _ _ _ _ _ _ _ (35, [some (.ref a), some (.int b), some (.ref c), some (.int q25.1), none], [], h28, 0, 0) _
  refine am_steps ok_Qu_takeOut 1 (x' := (36, [some (.ref a), some (.int b), some (.ref c), some (.int q25.1), none], [.int q25.1], h28, 0, 0)) rfl (Nat.le_of_ble_eq_true rfl) (Nat.le_of_ble_eq_true rfl) ?_
  cases hd; exact am_ret ok_Qu_takeOut rfl (Nat.le_of_ble_eq_true rfl) (Nat.le_of_ble_eq_true rfl) ⟨rfl, hR29, f30, (hE.rf.tr e31)⟩
