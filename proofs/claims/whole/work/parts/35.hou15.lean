/-! Methods of the class as functions of its state. -/
def hl_An_takeNext_27 : Nat → Int32 → Int64 → Int32 → hS → Option (Int64)
  | 0, _, _, _, _ => none
  | fu + 1, v1, v2, v4, s => if (7 : Int32) ≤ v4 then (some v2) else ((if (v1 : Int32) ≤ v4 then (some (v2 <<< (Int32.toInt64 8 &&& 63))) else ((am_ix ((s.2.1 202 7) + v4) 6000).bind fun j8 => (some ((v2 <<< (Int32.toInt64 8 &&& 63)) ||| (Int32.toInt64 ((s.2.2.2.2.1 8 j8) &&& 255)))))).bind fun (u3 : Int64) => (hl_An_takeNext_27 fu v1 u3 (v4 + 1) s))
set_option maxHeartbeats 4000000 in
set_option maxRecDepth 100000 in
theorem Lc_An_takeNext_27 {Q : Option Value → am_H → Prop} (s : hS) (h : am_H) (hR : RH s h) : ∀ (fu : Nat) (v1 : Int32) (v2 : Int64) (v4 : Int32), ∀ (q : Int64), hl_An_takeNext_27 fu v1 v2 v4 s = some q → (am_S am_Pr none 1 30 0 0 98 (71, [some (.ref 7), some (.int v1), some (.long q), none, none], [], h, 0, 0) Q) → am_S am_Pr none 1 30 0 0 98 (27, [some (.ref 7), some (.int v1), some (.long v2), none, some (.int v4)], [], h, 0, 0) Q := by
  intro fu
  induction fu with
  | zero => intro v1 v2 v4  q hd; cases hd
  | succ fu ih =>
    intro v1 v2 v4  q hd kk
    unfold hl_An_takeNext_27 at hd
    refine am_steps ok_An_takeNext 3 (x' := (if (7 : Int32) ≤ v4 then 71 else 34, [some (.ref 7), some (.int v1), some (.long v2), none, some (.int v4)], [], h, 0, 0)) rfl (Nat.le_of_ble_eq_true rfl) (Nat.le_of_ble_eq_true rfl) ?_
    refine am_if (fun hc2 => ?_) (fun hc2 => ?_)
    · rw [if_pos hc2] at hd
      refine am_drop 4 ?_
      cases hd; exact kk 
    · rw [if_neg hc2] at hd
      refine am_steps ok_An_takeNext 7 (x' := (if (v1 : Int32) ≤ v4 then 65 else 45, [some (.ref 7), some (.int v1), some (.long (v2 <<< (Int32.toInt64 8 &&& 63))), none, some (.int v4)], [], h, 0, 0)) rfl (Nat.le_of_ble_eq_true rfl) (Nat.le_of_ble_eq_true rfl) ?_
      obtain ⟨u3, hA5, hB6⟩ := Option.bind_eq_some_iff.mp hd; clear hd
      have K4 : am_S am_Pr none 1 30 0 0 98 (65, [some (.ref 7), some (.int v1), some (.long u3), none, some (.int v4)], [], h, 0, 0) Q := by
        have hd := hB6
        refine am_steps ok_An_takeNext 2 (x' := (27, [some (.ref 7), some (.int v1), some (.long u3), none, some (.int (v4 + 1))], [], h, 0, 0)) rfl (Nat.le_of_ble_eq_true rfl) (Nat.le_of_ble_eq_true rfl) ?_
        exact ih v1 u3 (v4 + 1)  q hd kk
      clear hB6; have hd := hA5; clear hA5
      refine am_if (fun hc7 => ?_) (fun hc7 => ?_)
      · rw [if_pos hc7] at hd
        cases hd; exact K4 
      · rw [if_neg hc7] at hd
        refine am_steps ok_An_takeNext 2 (x' := (47, [some (.ref 7), some (.int v1), some (.long (v2 <<< (Int32.toInt64 8 &&& 63))), none, some (.int v4)], [.ref 7, .long (v2 <<< (Int32.toInt64 8 &&& 63))], h, 0, 0)) rfl (Nat.le_of_ble_eq_true rfl) (Nat.le_of_ble_eq_true rfl) ?_
        refine hr_get ok_An_takeNext rfl hR (kd := 2) (hs_k hR (a := 7) rfl) rfl (Nat.le_of_ble_eq_true rfl) (Nat.le_of_ble_eq_true rfl) (v := .ref 8) (congrArg va_rf (hR.2.2.2.2.1 (200, 7, 8) (by decide))) (pc' := 50) rfl (Nat.le_of_ble_eq_true rfl) (Nat.le_of_ble_eq_true rfl) ?_
        refine am_steps ok_An_takeNext 1 (x' := (51, [some (.ref 7), some (.int v1), some (.long (v2 <<< (Int32.toInt64 8 &&& 63))), none, some (.int v4)], [.ref 7, .ref 8, .long (v2 <<< (Int32.toInt64 8 &&& 63))], h, 0, 0)) rfl (Nat.le_of_ble_eq_true rfl) (Nat.le_of_ble_eq_true rfl) ?_
        refine hr_get ok_An_takeNext rfl hR (kd := 2) (hs_k hR (a := 7) rfl) rfl (Nat.le_of_ble_eq_true rfl) (Nat.le_of_ble_eq_true rfl) (v := .int (s.2.1 202 7)) rfl (pc' := 54) rfl (Nat.le_of_ble_eq_true rfl) (Nat.le_of_ble_eq_true rfl) ?_
        refine am_steps ok_An_takeNext 2 (x' := (57, [some (.ref 7), some (.int v1), some (.long (v2 <<< (Int32.toInt64 8 &&& 63))), none, some (.int v4)], [.int ((s.2.1 202 7) + v4), .ref 8, .long (v2 <<< (Int32.toInt64 8 &&& 63))], h, 0, 0)) rfl (Nat.le_of_ble_eq_true rfl) (Nat.le_of_ble_eq_true rfl) ?_
        obtain ⟨j8, hx9, hd10⟩ := Option.bind_eq_some_iff.mp hd; clear hd; have hd := hd10; clear hd10
        refine hr_bald ok_An_takeNext rfl hR (kd := 22) (hs_k hR (a := 8) rfl) (by decide) (hs_ln hR rfl) hx9 (pc' := 58) rfl (Nat.le_of_ble_eq_true rfl) (Nat.le_of_ble_eq_true rfl) ?_
        refine am_steps ok_An_takeNext 5 (x' := (65, [some (.ref 7), some (.int v1), some (.long ((v2 <<< (Int32.toInt64 8 &&& 63)) ||| (Int32.toInt64 ((s.2.2.2.2.1 8 j8) &&& 255)))), none, some (.int v4)], [], h, 0, 0)) rfl (Nat.le_of_ble_eq_true rfl) (Nat.le_of_ble_eq_true rfl) ?_
        cases hd; exact K4 
def h_An_takeNext  (S : hS) : Option (Int64 × hS) := if (0 : Int32) < (if 7 < ((S.2.1 201 7) - (S.2.1 202 7)) then 7 else ((S.2.1 201 7) - (S.2.1 202 7))) then ((hl_An_takeNext_27 100000 (if 7 < ((S.2.1 201 7) - (S.2.1 202 7)) then 7 else ((S.2.1 201 7) - (S.2.1 202 7))) (Int32.toInt64 (if 7 < ((S.2.1 201 7) - (S.2.1 202 7)) then 7 else ((S.2.1 201 7) - (S.2.1 202 7)))) 0 S).bind fun q11 => (some (q11, (hpI S 202 7 ((S.2.1 202 7) + (if 7 < ((S.2.1 201 7) - (S.2.1 202 7)) then 7 else ((S.2.1 201 7) - (S.2.1 202 7)))))))) else (some (0, S))
set_option maxHeartbeats 4000000 in
set_option maxRecDepth 100000 in
theorem c_An_takeNext  (S : hS) (h0 : am_H) (hR : RH S h0)  (q : Int64 × hS) (hd : h_An_takeNext  S = some q) : am_Me am_Pr none 1 30 0 0 98 [.ref 7] h0 (hQr (.long q.1) q.2 S.1 h0) := by
  refine am_enter (d := hd_An_takeNext) rfl (by decide +kernel) (Nat.le_of_ble_eq_true rfl) ?_
  show am_S _ _ _ _ _ _ _ (0, [some (.ref 7), none, none, none, none], [], h0, 0, 0) _
  unfold h_An_takeNext at hd
  refine am_steps ok_An_takeNext 1 (x' := (1, [some (.ref 7), none, none, none, none], [.ref 7], h0, 0, 0)) rfl (Nat.le_of_ble_eq_true rfl) (Nat.le_of_ble_eq_true rfl) ?_
  refine hr_get ok_An_takeNext rfl hR (kd := 2) (hs_k hR (a := 7) rfl) rfl (Nat.le_of_ble_eq_true rfl) (Nat.le_of_ble_eq_true rfl) (v := .int (S.2.1 201 7)) rfl (pc' := 4) rfl (Nat.le_of_ble_eq_true rfl) (Nat.le_of_ble_eq_true rfl) ?_
  refine am_steps ok_An_takeNext 1 (x' := (5, [some (.ref 7), none, none, none, none], [.ref 7, .int (S.2.1 201 7)], h0, 0, 0)) rfl (Nat.le_of_ble_eq_true rfl) (Nat.le_of_ble_eq_true rfl) ?_
  refine hr_get ok_An_takeNext rfl hR (kd := 2) (hs_k hR (a := 7) rfl) rfl (Nat.le_of_ble_eq_true rfl) (Nat.le_of_ble_eq_true rfl) (v := .int (S.2.1 202 7)) rfl (pc' := 8) rfl (Nat.le_of_ble_eq_true rfl) (Nat.le_of_ble_eq_true rfl) ?_
  refine am_steps ok_An_takeNext 2 (x' := (11, [some (.ref 7), none, none, none, none], [.int 7, .int ((S.2.1 201 7) - (S.2.1 202 7))], h0, 0, 0)) rfl (Nat.le_of_ble_eq_true rfl) (Nat.le_of_ble_eq_true rfl) ?_
  refine ar_min ok_An_takeNext rfl (w := (if 7 < ((S.2.1 201 7) - (S.2.1 202 7)) then 7 else ((S.2.1 201 7) - (S.2.1 202 7)))) rfl (Nat.le_of_ble_eq_true rfl) (Nat.le_of_ble_eq_true rfl) (Nat.le_of_ble_eq_true rfl) (Nat.le_of_ble_eq_true rfl) (pc' := 14) rfl ?_
  refine am_steps ok_An_takeNext 3 (x' := (if (0 : Int32) < (if 7 < ((S.2.1 201 7) - (S.2.1 202 7)) then 7 else ((S.2.1 201 7) - (S.2.1 202 7))) then 21 else 19, [some (.ref 7), some (.int (if 7 < ((S.2.1 201 7) - (S.2.1 202 7)) then 7 else ((S.2.1 201 7) - (S.2.1 202 7)))), none, none, none], [], h0, 0, 0)) rfl (Nat.le_of_ble_eq_true rfl) (Nat.le_of_ble_eq_true rfl) ?_
  refine am_if (fun hc1 => ?_) (fun hc1 => ?_)
  · rw [if_pos hc1] at hd
    refine am_steps ok_An_takeNext 5 (x' := (27, [some (.ref 7), some (.int (if 7 < ((S.2.1 201 7) - (S.2.1 202 7)) then 7 else ((S.2.1 201 7) - (S.2.1 202 7)))), some (.long (Int32.toInt64 (if 7 < ((S.2.1 201 7) - (S.2.1 202 7)) then 7 else ((S.2.1 201 7) - (S.2.1 202 7))))), none, some (.int 0)], [], h0, 0, 0)) rfl (Nat.le_of_ble_eq_true rfl) (Nat.le_of_ble_eq_true rfl) ?_
    obtain ⟨q11, hq12, hd13⟩ := Option.bind_eq_some_iff.mp hd; clear hd; have hd := hd13; clear hd13
    refine Lc_An_takeNext_27 S h0 hR 100000 (if 7 < ((S.2.1 201 7) - (S.2.1 202 7)) then 7 else ((S.2.1 201 7) - (S.2.1 202 7))) (Int32.toInt64 (if 7 < ((S.2.1 201 7) - (S.2.1 202 7)) then 7 else ((S.2.1 201 7) - (S.2.1 202 7)))) 0  q11 hq12 ?_
    show am_S _ _ _ _ _ _ _ (71, [some (.ref 7), some (.int (if 7 < ((S.2.1 201 7) - (S.2.1 202 7)) then 7 else ((S.2.1 201 7) - (S.2.1 202 7)))), some (.long q11), none, none], [], h0, 0, 0) _
    refine am_steps ok_An_takeNext 2 (x' := (73, [some (.ref 7), some (.int (if 7 < ((S.2.1 201 7) - (S.2.1 202 7)) then 7 else ((S.2.1 201 7) - (S.2.1 202 7)))), some (.long q11), none, none], [.ref 7, .ref 7], h0, 0, 0)) rfl (Nat.le_of_ble_eq_true rfl) (Nat.le_of_ble_eq_true rfl) ?_
    refine hr_get ok_An_takeNext rfl hR (kd := 2) (hs_k hR (a := 7) rfl) rfl (Nat.le_of_ble_eq_true rfl) (Nat.le_of_ble_eq_true rfl) (v := .int (S.2.1 202 7)) rfl (pc' := 76) rfl (Nat.le_of_ble_eq_true rfl) (Nat.le_of_ble_eq_true rfl) ?_
    refine am_steps ok_An_takeNext 2 (x' := (78, [some (.ref 7), some (.int (if 7 < ((S.2.1 201 7) - (S.2.1 202 7)) then 7 else ((S.2.1 201 7) - (S.2.1 202 7)))), some (.long q11), none, none], [.int ((S.2.1 202 7) + (if 7 < ((S.2.1 201 7) - (S.2.1 202 7)) then 7 else ((S.2.1 201 7) - (S.2.1 202 7)))), .ref 7], h0, 0, 0)) rfl (Nat.le_of_ble_eq_true rfl) (Nat.le_of_ble_eq_true rfl) ?_
    refine hr_put ok_An_takeNext rfl hR (kd := 2) (hs_k hR (a := 7) rfl) rfl (Nat.le_of_ble_eq_true rfl) (Nat.le_of_ble_eq_true rfl) rfl (S' := (hpI S 202 7 ((S.2.1 202 7) + (if 7 < ((S.2.1 201 7) - (S.2.1 202 7)) then 7 else ((S.2.1 201 7) - (S.2.1 202 7)))))) rfl (hWT.up hR.2.2 rfl rfl rfl) (pc' := 81) rfl (Nat.le_of_ble_eq_true rfl) (Nat.le_of_ble_eq_true rfl) (fun h14 hR15 g16 => ?_)
    have f17 := hF.tr hF.rf g16
    refine am_steps ok_An_takeNext 1 (x' := (82, [some (.ref 7), some (.int (if 7 < ((S.2.1 201 7) - (S.2.1 202 7)) then 7 else ((S.2.1 201 7) - (S.2.1 202 7)))), some (.long q11), none, none], [.long q11], h14, 0, 0)) rfl (Nat.le_of_ble_eq_true rfl) (Nat.le_of_ble_eq_true rfl) ?_
    cases hd; exact am_ret ok_An_takeNext rfl (Nat.le_of_ble_eq_true rfl) (Nat.le_of_ble_eq_true rfl) ⟨rfl, hR15, f17, hE.rf⟩
  · rw [if_neg hc1] at hd
    refine am_steps ok_An_takeNext 1 (x' := (20, [some (.ref 7), some (.int (if 7 < ((S.2.1 201 7) - (S.2.1 202 7)) then 7 else ((S.2.1 201 7) - (S.2.1 202 7)))), none, none, none], [.long 0], h0, 0, 0)) rfl (Nat.le_of_ble_eq_true rfl) (Nat.le_of_ble_eq_true rfl) ?_
    cases hd; exact am_ret ok_An_takeNext rfl (Nat.le_of_ble_eq_true rfl) (Nat.le_of_ble_eq_true rfl) ⟨rfl, hR, hF.rf, hE.rf⟩
def h_Ho_fetch  (S : hS) : Option (Int64 × hS) := (h_An_takeNext  S).bind fun q1 => (some (q1.1, q1.2))
set_option maxHeartbeats 4000000 in
set_option maxRecDepth 100000 in
theorem c_Ho_fetch  (S : hS) (h0 : am_H) (hR : RH S h0)  (q : Int64 × hS) (hd : h_Ho_fetch  S = some q) : am_Me am_Pr none 2 54 0 0 4 [.ref 0] h0 (hQr (.long q.1) q.2 S.1 h0) := by
  refine am_enter (d := hd_Ho_fetch) rfl (by decide +kernel) (Nat.le_of_ble_eq_true rfl) ?_
  show am_S _ _ _ _ _ _ _ (0, [some (.ref 0)], [], h0, 0, 0) _
  unfold h_Ho_fetch at hd
  refine am_steps ok_Ho_fetch 1 (x' := (1, [some (.ref 0)], [.ref 0], h0, 0, 0)) rfl (Nat.le_of_ble_eq_true rfl) (Nat.le_of_ble_eq_true rfl) ?_
  refine hr_get ok_Ho_fetch rfl hR (kd := 0) (hs_k hR (a := 0) rfl) rfl (Nat.le_of_ble_eq_true rfl) (Nat.le_of_ble_eq_true rfl) (v := .ref 7) (congrArg va_rf (hR.2.2.2.2.1 (3, 0, 7) (by decide))) (pc' := 4) rfl (Nat.le_of_ble_eq_true rfl) (Nat.le_of_ble_eq_true rfl) ?_
  obtain ⟨q1, hq2, hd3⟩ := Option.bind_eq_some_iff.mp hd; clear hd; have hd := hd3; clear hd3
  refine ar_cv ok_Ho_fetch hk_An_takeNext rfl rfl (As := []) (ad := 7) (rest := []) rfl rfl (hR.ob (hs_k hR (a := 7) rfl) (Nat.le_of_ble_eq_true rfl)) (Nat.le_of_ble_eq_true rfl) (c_An_takeNext  S h0 hR  q1 hq2) (Nat.le_of_ble_eq_true rfl) (Nat.le_of_ble_eq_true rfl) (Nat.le_of_ble_eq_true rfl) (Nat.le_of_ble_eq_true rfl) (pc' := 7) rfl (fun r4 h6 z5 => ?_)
  obtain ⟨rfl, hR8, g9, e10⟩ := z5
  have f11 := hF.tr hF.rf g9
  show am_S _ _ _ _ _ _ _ (7, [some (.ref 0)], [.long q1.1], h6, 0, 0) _
  cases hd; exact am_ret ok_Ho_fetch rfl (Nat.le_of_ble_eq_true rfl) (Nat.le_of_ble_eq_true rfl) ⟨rfl, hR8, f11, (hE.rf.tr e10)⟩
def h_Ho_charge (a : Int32) (S : hS) : Option (Int32 × hS) := if (a : Int32) < 0 then (some (0, S)) else (if (a : Int32) ≤ 9999 then (some (1, (hpI S 601 9 a))) else (some (0, S)))
set_option maxHeartbeats 4000000 in
set_option maxRecDepth 100000 in
theorem c_Ho_charge (a : Int32) (S : hS) (h0 : am_H) (hR : RH S h0)  (q : Int32 × hS) (hd : h_Ho_charge a S = some q) : am_Me am_Pr none 0 0 0 0 5 [.ref 0, .int a] h0 (hQr (.int q.1) q.2 S.1 h0) := by
  refine am_enter (d := hd_Ho_charge) rfl (by decide +kernel) (Nat.le_of_ble_eq_true rfl) ?_
  show am_S _ _ _ _ _ _ _ (0, [some (.ref 0), some (.int a)], [], h0, 0, 0) _
  unfold h_Ho_charge at hd
  refine am_steps ok_Ho_charge 2 (x' := (if (a : Int32) < 0 then 11 else 4, [some (.ref 0), some (.int a)], [], h0, 0, 0)) rfl (Nat.le_of_ble_eq_true rfl) (Nat.le_of_ble_eq_true rfl) ?_
  refine am_if (fun hc1 => ?_) (fun hc1 => ?_)
  · rw [if_pos hc1] at hd
    refine am_steps ok_Ho_charge 1 (x' := (12, [some (.ref 0), some (.int a)], [.int 0], h0, 0, 0)) rfl (Nat.le_of_ble_eq_true rfl) (Nat.le_of_ble_eq_true rfl) ?_
    cases hd; exact am_ret ok_Ho_charge rfl (Nat.le_of_ble_eq_true rfl) (Nat.le_of_ble_eq_true rfl) ⟨rfl, hR, hF.rf, hE.rf⟩
  · rw [if_neg hc1] at hd
    refine am_steps ok_Ho_charge 3 (x' := (if (a : Int32) ≤ 9999 then 13 else 11, [some (.ref 0), some (.int a)], [], h0, 0, 0)) rfl (Nat.le_of_ble_eq_true rfl) (Nat.le_of_ble_eq_true rfl) ?_
    refine am_if (fun hc2 => ?_) (fun hc2 => ?_)
    · rw [if_pos hc2] at hd
      refine am_steps ok_Ho_charge 1 (x' := (14, [some (.ref 0), some (.int a)], [.ref 0], h0, 0, 0)) rfl (Nat.le_of_ble_eq_true rfl) (Nat.le_of_ble_eq_true rfl) ?_
      refine hr_get ok_Ho_charge rfl hR (kd := 0) (hs_k hR (a := 0) rfl) rfl (Nat.le_of_ble_eq_true rfl) (Nat.le_of_ble_eq_true rfl) (v := .ref 9) (congrArg va_rf (hR.2.2.2.2.1 (4, 0, 9) (by decide))) (pc' := 17) rfl (Nat.le_of_ble_eq_true rfl) (Nat.le_of_ble_eq_true rfl) ?_
      refine am_steps ok_Ho_charge 1 (x' := (18, [some (.ref 0), some (.int a)], [.int a, .ref 9], h0, 0, 0)) rfl (Nat.le_of_ble_eq_true rfl) (Nat.le_of_ble_eq_true rfl) ?_
      refine hr_put ok_Ho_charge rfl hR (kd := 6) (hs_k hR (a := 9) rfl) rfl (Nat.le_of_ble_eq_true rfl) (Nat.le_of_ble_eq_true rfl) rfl (S' := (hpI S 601 9 a)) rfl (hWT.up hR.2.2 rfl rfl rfl) (pc' := 21) rfl (Nat.le_of_ble_eq_true rfl) (Nat.le_of_ble_eq_true rfl) (fun h3 hR4 g5 => ?_)
      have f6 := hF.tr hF.rf g5
      refine am_steps ok_Ho_charge 1 (x' := (22, [some (.ref 0), some (.int a)], [.int 1], h3, 0, 0)) rfl (Nat.le_of_ble_eq_true rfl) (Nat.le_of_ble_eq_true rfl) ?_
      cases hd; exact am_ret ok_Ho_charge rfl (Nat.le_of_ble_eq_true rfl) (Nat.le_of_ble_eq_true rfl) ⟨rfl, hR4, f6, hE.rf⟩
    · rw [if_neg hc2] at hd
      refine am_steps ok_Ho_charge 1 (x' := (12, [some (.ref 0), some (.int a)], [.int 0], h0, 0, 0)) rfl (Nat.le_of_ble_eq_true rfl) (Nat.le_of_ble_eq_true rfl) ?_
      cases hd; exact am_ret ok_Ho_charge rfl (Nat.le_of_ble_eq_true rfl) (Nat.le_of_ble_eq_true rfl) ⟨rfl, hR, hF.rf, hE.rf⟩
def h_Ho_start  (S : hS) : Option (Int32 × hS) := if ((S.2.1 600 9) : Int32) = 0 then ((h_Di_writeBlock  S).bind fun q2 => (if ¬ (q2.1 : Int32) = 0 then (some (1, (hpI q2.2 600 9 1))) else (some (2, q2.2)))) else (some (0, S))
set_option maxHeartbeats 4000000 in
set_option maxRecDepth 100000 in
theorem c_Ho_start  (S : hS) (h0 : am_H) (hR : RH S h0)  (q : Int32 × hS) (hd : h_Ho_start  S = some q) : am_Me am_Pr none 1 20 0 0 6 [.ref 0] h0 (hQr (.int q.1) q.2 S.1 h0) := by
  refine am_enter (d := hd_Ho_start) rfl (by decide +kernel) (Nat.le_of_ble_eq_true rfl) ?_
  show am_S _ _ _ _ _ _ _ (0, [some (.ref 0)], [], h0, 0, 0) _
  unfold h_Ho_start at hd
  refine am_steps ok_Ho_start 1 (x' := (1, [some (.ref 0)], [.ref 0], h0, 0, 0)) rfl (Nat.le_of_ble_eq_true rfl) (Nat.le_of_ble_eq_true rfl) ?_
  refine hr_get ok_Ho_start rfl hR (kd := 0) (hs_k hR (a := 0) rfl) rfl (Nat.le_of_ble_eq_true rfl) (Nat.le_of_ble_eq_true rfl) (v := .ref 9) (congrArg va_rf (hR.2.2.2.2.1 (4, 0, 9) (by decide))) (pc' := 4) rfl (Nat.le_of_ble_eq_true rfl) (Nat.le_of_ble_eq_true rfl) ?_
  refine hr_get ok_Ho_start rfl hR (kd := 6) (hs_k hR (a := 9) rfl) rfl (Nat.le_of_ble_eq_true rfl) (Nat.le_of_ble_eq_true rfl) (v := .int (S.2.1 600 9)) rfl (pc' := 7) rfl (Nat.le_of_ble_eq_true rfl) (Nat.le_of_ble_eq_true rfl) ?_
  refine am_steps ok_Ho_start 1 (x' := (if ((S.2.1 600 9) : Int32) = 0 then 12 else 10, [some (.ref 0)], [], h0, 0, 0)) rfl (Nat.le_of_ble_eq_true rfl) (Nat.le_of_ble_eq_true rfl) ?_
  refine am_if (fun hc1 => ?_) (fun hc1 => ?_)
  · rw [if_pos hc1] at hd
    refine am_steps ok_Ho_start 1 (x' := (13, [some (.ref 0)], [.ref 0], h0, 0, 0)) rfl (Nat.le_of_ble_eq_true rfl) (Nat.le_of_ble_eq_true rfl) ?_
    refine hr_get ok_Ho_start rfl hR (kd := 0) (hs_k hR (a := 0) rfl) rfl (Nat.le_of_ble_eq_true rfl) (Nat.le_of_ble_eq_true rfl) (v := .ref 9) (congrArg va_rf (hR.2.2.2.2.1 (4, 0, 9) (by decide))) (pc' := 16) rfl (Nat.le_of_ble_eq_true rfl) (Nat.le_of_ble_eq_true rfl) ?_
    obtain ⟨q2, hq3, hd4⟩ := Option.bind_eq_some_iff.mp hd; clear hd; have hd := hd4; clear hd4
    refine ar_cv ok_Ho_start hk_Di_writeBlock rfl rfl (As := []) (ad := 9) (rest := []) rfl rfl (hR.ob (hs_k hR (a := 9) rfl) (Nat.le_of_ble_eq_true rfl)) (Nat.le_of_ble_eq_true rfl) (c_Di_writeBlock  S h0 hR  q2 hq3) (Nat.le_of_ble_eq_true rfl) (Nat.le_of_ble_eq_true rfl) (Nat.le_of_ble_eq_true rfl) (Nat.le_of_ble_eq_true rfl) (pc' := 19) rfl (fun r5 h7 z6 => ?_)
    obtain ⟨rfl, hR9, g10, e11⟩ := z6
    have f12 := hF.tr hF.rf g10
    show am_S _ _ _ _ _ _ _ (19, [some (.ref 0)], [.int q2.1], h7, 0, 0) _
    refine am_steps ok_Ho_start 1 (x' := (if ¬ (q2.1 : Int32) = 0 then 24 else 22, [some (.ref 0)], [], h7, 0, 0)) rfl (Nat.le_of_ble_eq_true rfl) (Nat.le_of_ble_eq_true rfl) ?_
    refine am_if (fun hc13 => ?_) (fun hc13 => ?_)
    · rw [if_pos hc13] at hd
      refine am_steps ok_Ho_start 1 (x' := (25, [some (.ref 0)], [.ref 0], h7, 0, 0)) rfl (Nat.le_of_ble_eq_true rfl) (Nat.le_of_ble_eq_true rfl) ?_
      refine hr_get ok_Ho_start rfl hR9 (kd := 0) (hs_k hR9 (a := 0) rfl) rfl (Nat.le_of_ble_eq_true rfl) (Nat.le_of_ble_eq_true rfl) (v := .ref 9) (congrArg va_rf (hR9.2.2.2.2.1 (4, 0, 9) (by decide))) (pc' := 28) rfl (Nat.le_of_ble_eq_true rfl) (Nat.le_of_ble_eq_true rfl) ?_
      refine am_steps ok_Ho_start 1 (x' := (29, [some (.ref 0)], [.int 1, .ref 9], h7, 0, 0)) rfl (Nat.le_of_ble_eq_true rfl) (Nat.le_of_ble_eq_true rfl) ?_
      refine hr_put ok_Ho_start rfl hR9 (kd := 6) (hs_k hR9 (a := 9) rfl) rfl (Nat.le_of_ble_eq_true rfl) (Nat.le_of_ble_eq_true rfl) rfl (S' := (hpI q2.2 600 9 1)) rfl (hWT.up hR9.2.2 rfl rfl rfl) (pc' := 32) rfl (Nat.le_of_ble_eq_true rfl) (Nat.le_of_ble_eq_true rfl) (fun h14 hR15 g16 => ?_)
      have f17 := hF.tr f12 g16
      refine am_steps ok_Ho_start 1 (x' := (33, [some (.ref 0)], [.int 1], h14, 0, 0)) rfl (Nat.le_of_ble_eq_true rfl) (Nat.le_of_ble_eq_true rfl) ?_
      cases hd; exact am_ret ok_Ho_start rfl (Nat.le_of_ble_eq_true rfl) (Nat.le_of_ble_eq_true rfl) ⟨rfl, hR15, f17, (hE.rf.tr e11)⟩
    · rw [if_neg hc13] at hd
      refine am_steps ok_Ho_start 1 (x' := (23, [some (.ref 0)], [.int 2], h7, 0, 0)) rfl (Nat.le_of_ble_eq_true rfl) (Nat.le_of_ble_eq_true rfl) ?_
      cases hd; exact am_ret ok_Ho_start rfl (Nat.le_of_ble_eq_true rfl) (Nat.le_of_ble_eq_true rfl) ⟨rfl, hR9, f12, (hE.rf.tr e11)⟩
  · rw [if_neg hc1] at hd
    refine am_steps ok_Ho_start 1 (x' := (11, [some (.ref 0)], [.int 0], h0, 0, 0)) rfl (Nat.le_of_ble_eq_true rfl) (Nat.le_of_ble_eq_true rfl) ?_
    cases hd; exact am_ret ok_Ho_start rfl (Nat.le_of_ble_eq_true rfl) (Nat.le_of_ble_eq_true rfl) ⟨rfl, hR, hF.rf, hE.rf⟩
def h_Ho_position (a : Int32) (b : Int32) (S : hS) : Option (Int64) := if ((S.2.1 600 9) : Int32) = 0 then (some 0) else (if (a : Int32) < 0 then (some 0) else (if ((S.2.1 401 10) : Int32) ≤ a then (some 0) else (if (b : Int32) < 0 then (some 0) else (if (b : Int32) < (S.2.1 403 10) then ((h_Bo_levelOf a b S).bind fun q6 => (some q6)) else (some 0)))))
set_option maxHeartbeats 4000000 in
set_option maxRecDepth 100000 in
theorem c_Ho_position (a : Int32) (b : Int32) (S : hS) (h0 : am_H) (hR : RH S h0)  (q : Int64) (hd : h_Ho_position a b S = some q) : am_Me am_Pr none 1 23 0 0 7 [.ref 0, .int a, .int b] h0 (am_is (some (.long q)) h0) := by
  refine am_enter (d := hd_Ho_position) rfl (by decide +kernel) (Nat.le_of_ble_eq_true rfl) ?_
  show am_S _ _ _ _ _ _ _ (0, [some (.ref 0), some (.int a), some (.int b)], [], h0, 0, 0) _
  unfold h_Ho_position at hd
  refine am_steps ok_Ho_position 1 (x' := (1, [some (.ref 0), some (.int a), some (.int b)], [.ref 0], h0, 0, 0)) rfl (Nat.le_of_ble_eq_true rfl) (Nat.le_of_ble_eq_true rfl) ?_
  refine hr_get ok_Ho_position rfl hR (kd := 0) (hs_k hR (a := 0) rfl) rfl (Nat.le_of_ble_eq_true rfl) (Nat.le_of_ble_eq_true rfl) (v := .ref 9) (congrArg va_rf (hR.2.2.2.2.1 (4, 0, 9) (by decide))) (pc' := 4) rfl (Nat.le_of_ble_eq_true rfl) (Nat.le_of_ble_eq_true rfl) ?_
  refine hr_get ok_Ho_position rfl hR (kd := 6) (hs_k hR (a := 9) rfl) rfl (Nat.le_of_ble_eq_true rfl) (Nat.le_of_ble_eq_true rfl) (v := .int (S.2.1 600 9)) rfl (pc' := 7) rfl (Nat.le_of_ble_eq_true rfl) (Nat.le_of_ble_eq_true rfl) ?_
  refine am_steps ok_Ho_position 1 (x' := (if ((S.2.1 600 9) : Int32) = 0 then 40 else 10, [some (.ref 0), some (.int a), some (.int b)], [], h0, 0, 0)) rfl (Nat.le_of_ble_eq_true rfl) (Nat.le_of_ble_eq_true rfl) ?_
  refine am_if (fun hc1 => ?_) (fun hc1 => ?_)
  · rw [if_pos hc1] at hd
    refine am_steps ok_Ho_position 1 (x' := (41, [some (.ref 0), some (.int a), some (.int b)], [.long 0], h0, 0, 0)) rfl (Nat.le_of_ble_eq_true rfl) (Nat.le_of_ble_eq_true rfl) ?_
    cases hd; exact am_ret ok_Ho_position rfl (Nat.le_of_ble_eq_true rfl) (Nat.le_of_ble_eq_true rfl) ⟨rfl, rfl⟩
  · rw [if_neg hc1] at hd
    refine am_steps ok_Ho_position 2 (x' := (if (a : Int32) < 0 then 40 else 14, [some (.ref 0), some (.int a), some (.int b)], [], h0, 0, 0)) rfl (Nat.le_of_ble_eq_true rfl) (Nat.le_of_ble_eq_true rfl) ?_
    refine am_if (fun hc2 => ?_) (fun hc2 => ?_)
    · rw [if_pos hc2] at hd
      refine am_steps ok_Ho_position 1 (x' := (41, [some (.ref 0), some (.int a), some (.int b)], [.long 0], h0, 0, 0)) rfl (Nat.le_of_ble_eq_true rfl) (Nat.le_of_ble_eq_true rfl) ?_
      cases hd; exact am_ret ok_Ho_position rfl (Nat.le_of_ble_eq_true rfl) (Nat.le_of_ble_eq_true rfl) ⟨rfl, rfl⟩
    · rw [if_neg hc2] at hd
      refine am_steps ok_Ho_position 2 (x' := (16, [some (.ref 0), some (.int a), some (.int b)], [.ref 0, .int a], h0, 0, 0)) rfl (Nat.le_of_ble_eq_true rfl) (Nat.le_of_ble_eq_true rfl) ?_
      refine hr_get ok_Ho_position rfl hR (kd := 0) (hs_k hR (a := 0) rfl) rfl (Nat.le_of_ble_eq_true rfl) (Nat.le_of_ble_eq_true rfl) (v := .ref 10) (congrArg va_rf (hR.2.2.2.2.1 (5, 0, 10) (by decide))) (pc' := 19) rfl (Nat.le_of_ble_eq_true rfl) (Nat.le_of_ble_eq_true rfl) ?_
      refine hr_get ok_Ho_position rfl hR (kd := 4) (hs_k hR (a := 10) rfl) rfl (Nat.le_of_ble_eq_true rfl) (Nat.le_of_ble_eq_true rfl) (v := .int (S.2.1 401 10)) rfl (pc' := 22) rfl (Nat.le_of_ble_eq_true rfl) (Nat.le_of_ble_eq_true rfl) ?_
      refine am_steps ok_Ho_position 1 (x' := (if ((S.2.1 401 10) : Int32) ≤ a then 40 else 25, [some (.ref 0), some (.int a), some (.int b)], [], h0, 0, 0)) rfl (Nat.le_of_ble_eq_true rfl) (Nat.le_of_ble_eq_true rfl) ?_
      refine am_if (fun hc3 => ?_) (fun hc3 => ?_)
      · rw [if_pos hc3] at hd
        refine am_steps ok_Ho_position 1 (x' := (41, [some (.ref 0), some (.int a), some (.int b)], [.long 0], h0, 0, 0)) rfl (Nat.le_of_ble_eq_true rfl) (Nat.le_of_ble_eq_true rfl) ?_
        cases hd; exact am_ret ok_Ho_position rfl (Nat.le_of_ble_eq_true rfl) (Nat.le_of_ble_eq_true rfl) ⟨rfl, rfl⟩
      · rw [if_neg hc3] at hd
        refine am_steps ok_Ho_position 2 (x' := (if (b : Int32) < 0 then 40 else 29, [some (.ref 0), some (.int a), some (.int b)], [], h0, 0, 0)) rfl (Nat.le_of_ble_eq_true rfl) (Nat.le_of_ble_eq_true rfl) ?_
        refine am_if (fun hc4 => ?_) (fun hc4 => ?_)
        · rw [if_pos hc4] at hd
          refine am_steps ok_Ho_position 1 (x' := (41, [some (.ref 0), some (.int a), some (.int b)], [.long 0], h0, 0, 0)) rfl (Nat.le_of_ble_eq_true rfl) (Nat.le_of_ble_eq_true rfl) ?_
          cases hd; exact am_ret ok_Ho_position rfl (Nat.le_of_ble_eq_true rfl) (Nat.le_of_ble_eq_true rfl) ⟨rfl, rfl⟩
        · rw [if_neg hc4] at hd
          refine am_steps ok_Ho_position 2 (x' := (31, [some (.ref 0), some (.int a), some (.int b)], [.ref 0, .int b], h0, 0, 0)) rfl (Nat.le_of_ble_eq_true rfl) (Nat.le_of_ble_eq_true rfl) ?_
          refine hr_get ok_Ho_position rfl hR (kd := 0) (hs_k hR (a := 0) rfl) rfl (Nat.le_of_ble_eq_true rfl) (Nat.le_of_ble_eq_true rfl) (v := .ref 10) (congrArg va_rf (hR.2.2.2.2.1 (5, 0, 10) (by decide))) (pc' := 34) rfl (Nat.le_of_ble_eq_true rfl) (Nat.le_of_ble_eq_true rfl) ?_
          refine hr_get ok_Ho_position rfl hR (kd := 4) (hs_k hR (a := 10) rfl) rfl (Nat.le_of_ble_eq_true rfl) (Nat.le_of_ble_eq_true rfl) (v := .int (S.2.1 403 10)) rfl (pc' := 37) rfl (Nat.le_of_ble_eq_true rfl) (Nat.le_of_ble_eq_true rfl) ?_
          refine am_steps ok_Ho_position 1 (x' := (if (b : Int32) < (S.2.1 403 10) then 42 else 40, [some (.ref 0), some (.int a), some (.int b)], [], h0, 0, 0)) rfl (Nat.le_of_ble_eq_true rfl) (Nat.le_of_ble_eq_true rfl) ?_
          refine am_if (fun hc5 => ?_) (fun hc5 => ?_)
          · rw [if_pos hc5] at hd
            refine am_steps ok_Ho_position 1 (x' := (43, [some (.ref 0), some (.int a), some (.int b)], [.ref 0], h0, 0, 0)) rfl (Nat.le_of_ble_eq_true rfl) (Nat.le_of_ble_eq_true rfl) ?_
            refine hr_get ok_Ho_position rfl hR (kd := 0) (hs_k hR (a := 0) rfl) rfl (Nat.le_of_ble_eq_true rfl) (Nat.le_of_ble_eq_true rfl) (v := .ref 10) (congrArg va_rf (hR.2.2.2.2.1 (5, 0, 10) (by decide))) (pc' := 46) rfl (Nat.le_of_ble_eq_true rfl) (Nat.le_of_ble_eq_true rfl) ?_
            refine am_steps ok_Ho_position 2 (x' := (48, [some (.ref 0), some (.int a), some (.int b)], [.int b, .int a, .ref 10], h0, 0, 0)) rfl (Nat.le_of_ble_eq_true rfl) (Nat.le_of_ble_eq_true rfl) ?_
            obtain ⟨q6, hq7, hd8⟩ := Option.bind_eq_some_iff.mp hd; clear hd; have hd := hd8; clear hd8
            refine ar_cv ok_Ho_position hk_Bo_levelOf rfl rfl (As := [.int a, .int b]) (ad := 10) (rest := []) rfl rfl (hR.ob (hs_k hR (a := 10) rfl) (Nat.le_of_ble_eq_true rfl)) (Nat.le_of_ble_eq_true rfl) (c_Bo_levelOf a b S h0 hR  q6 hq7) (Nat.le_of_ble_eq_true rfl) (Nat.le_of_ble_eq_true rfl) (Nat.le_of_ble_eq_true rfl) (Nat.le_of_ble_eq_true rfl) (pc' := 51) rfl (fun r9 h11 z10 => ?_)
            obtain ⟨rfl, z13⟩ := z10; rw [z13]
            show am_S _ _ _ _ _ _ _ (51, [some (.ref 0), some (.int a), some (.int b)], [.long q6], h0, 0, 0) _
            cases hd; exact am_ret ok_Ho_position rfl (Nat.le_of_ble_eq_true rfl) (Nat.le_of_ble_eq_true rfl) ⟨rfl, rfl⟩
          · rw [if_neg hc5] at hd
            refine am_steps ok_Ho_position 1 (x' := (41, [some (.ref 0), some (.int a), some (.int b)], [.long 0], h0, 0, 0)) rfl (Nat.le_of_ble_eq_true rfl) (Nat.le_of_ble_eq_true rfl) ?_
            cases hd; exact am_ret ok_Ho_position rfl (Nat.le_of_ble_eq_true rfl) (Nat.le_of_ble_eq_true rfl) ⟨rfl, rfl⟩
def h_Ho_whileUp (a : Int32) (S : hS) : Option (Int32) := if ((S.2.1 600 9) : Int32) = 0 then (some 0) else (some a)
set_option maxHeartbeats 4000000 in
set_option maxRecDepth 100000 in
theorem c_Ho_whileUp (a : Int32) (S : hS) (h0 : am_H) (hR : RH S h0)  (q : Int32) (hd : h_Ho_whileUp a S = some q) : am_Me am_Pr none 0 0 0 0 10 [.ref 0, .int a] h0 (am_is (some (.int q)) h0) := by
  refine am_enter (d := hd_Ho_whileUp) rfl (by decide +kernel) (Nat.le_of_ble_eq_true rfl) ?_
  show am_S _ _ _ _ _ _ _ (0, [some (.ref 0), some (.int a)], [], h0, 0, 0) _
  unfold h_Ho_whileUp at hd
  refine am_steps ok_Ho_whileUp 1 (x' := (1, [some (.ref 0), some (.int a)], [.ref 0], h0, 0, 0)) rfl (Nat.le_of_ble_eq_true rfl) (Nat.le_of_ble_eq_true rfl) ?_
  refine hr_get ok_Ho_whileUp rfl hR (kd := 0) (hs_k hR (a := 0) rfl) rfl (Nat.le_of_ble_eq_true rfl) (Nat.le_of_ble_eq_true rfl) (v := .ref 9) (congrArg va_rf (hR.2.2.2.2.1 (4, 0, 9) (by decide))) (pc' := 4) rfl (Nat.le_of_ble_eq_true rfl) (Nat.le_of_ble_eq_true rfl) ?_
  refine hr_get ok_Ho_whileUp rfl hR (kd := 6) (hs_k hR (a := 9) rfl) rfl (Nat.le_of_ble_eq_true rfl) (Nat.le_of_ble_eq_true rfl) (v := .int (S.2.1 600 9)) rfl (pc' := 7) rfl (Nat.le_of_ble_eq_true rfl) (Nat.le_of_ble_eq_true rfl) ?_
  refine am_steps ok_Ho_whileUp 1 (x' := (if ((S.2.1 600 9) : Int32) = 0 then 14 else 10, [some (.ref 0), some (.int a)], [], h0, 0, 0)) rfl (Nat.le_of_ble_eq_true rfl) (Nat.le_of_ble_eq_true rfl) ?_
  refine am_if (fun hc1 => ?_) (fun hc1 => ?_)
  · rw [if_pos hc1] at hd
    refine am_steps ok_Ho_whileUp 1 (x' := (15, [some (.ref 0), some (.int a)], [.int 0], h0, 0, 0)) rfl (Nat.le_of_ble_eq_true rfl) (Nat.le_of_ble_eq_true rfl) ?_
    cases hd; exact am_ret ok_Ho_whileUp rfl (Nat.le_of_ble_eq_true rfl) (Nat.le_of_ble_eq_true rfl) ⟨rfl, rfl⟩
  · rw [if_neg hc1] at hd
    refine am_steps ok_Ho_whileUp 2 (x' := (15, [some (.ref 0), some (.int a)], [.int a], h0, 0, 0)) rfl (Nat.le_of_ble_eq_true rfl) (Nat.le_of_ble_eq_true rfl) ?_
    cases hd; exact am_ret ok_Ho_whileUp rfl (Nat.le_of_ble_eq_true rfl) (Nat.le_of_ble_eq_true rfl) ⟨rfl, rfl⟩
def h_Di_journalBlocks  (S : hS) : Option (Int32) := (h_Di_blocksOf (S.2.1 603 9)).bind fun q1 => (some q1)
set_option maxHeartbeats 4000000 in
set_option maxRecDepth 100000 in
theorem c_Di_journalBlocks  (S : hS) (h0 : am_H) (hR : RH S h0)  (q : Int32) (hd : h_Di_journalBlocks  S = some q) : am_Me am_Pr none 1 20 0 0 166 [.ref 9] h0 (am_is (some (.int q)) h0) := by
  refine am_enter (d := hd_Di_journalBlocks) rfl (by decide +kernel) (Nat.le_of_ble_eq_true rfl) ?_
  show am_S _ _ _ _ _ _ _ (0, [some (.ref 9)], [], h0, 0, 0) _
  unfold h_Di_journalBlocks at hd
  refine am_steps ok_Di_journalBlocks 1 (x' := (1, [some (.ref 9)], [.ref 9], h0, 0, 0)) rfl (Nat.le_of_ble_eq_true rfl) (Nat.le_of_ble_eq_true rfl) ?_
  refine hr_get ok_Di_journalBlocks rfl hR (kd := 6) (hs_k hR (a := 9) rfl) rfl (Nat.le_of_ble_eq_true rfl) (Nat.le_of_ble_eq_true rfl) (v := .int (S.2.1 603 9)) rfl (pc' := 4) rfl (Nat.le_of_ble_eq_true rfl) (Nat.le_of_ble_eq_true rfl) ?_
  obtain ⟨q1, hq2, hd3⟩ := Option.bind_eq_some_iff.mp hd; clear hd; have hd := hd3; clear hd3
  refine am_call ok_Di_journalBlocks hk_Di_blocksOf rfl (args' := [.int (S.2.1 603 9)]) (rest := []) rfl (c_Di_blocksOf (S.2.1 603 9) h0 q1 hq2) (Nat.le_of_ble_eq_true rfl) (Nat.le_of_ble_eq_true rfl) (Nat.le_of_ble_eq_true rfl) (Nat.le_of_ble_eq_true rfl) (fun r4 h6 z5 => ?_)
  obtain ⟨rfl, z8⟩ := z5; rw [z8]
  show am_S _ _ _ _ _ _ _ (7, [some (.ref 9)], [.int q1], h0, 0, 0) _
  cases hd; exact am_ret ok_Di_journalBlocks rfl (Nat.le_of_ble_eq_true rfl) (Nat.le_of_ble_eq_true rfl) ⟨rfl, rfl⟩
def h_Ho_count (a : Int32) (S : hS) : Option (Int32) := if a = 0 then (if ((S.2.1 600 9) : Int32) = 0 then (some 0) else (some 1)) else (if a = 1 then ((h_Ho_whileUp (S.2.1 503 20) S).bind fun q7 => (some q7)) else (if a = 2 then ((h_Ho_whileUp (S.2.1 504 20) S).bind fun q18 => (some q18)) else (if a = 3 then ((h_Ho_whileUp (S.2.1 401 10) S).bind fun q29 => (some q29)) else (if a = 4 then ((h_Ho_whileUp (S.2.1 403 10) S).bind fun q40 => (some q40)) else (if a = 5 then ((h_Ho_whileUp (S.2.1 1101 16) S).bind fun q51 => (some q51)) else (if a = 6 then ((h_Ho_whileUp (S.2.1 1103 16) S).bind fun q62 => (some q62)) else (if a = 7 then (some (S.2.1 1 0)) else (if a = 8 then ((h_Di_journalBlocks  S).bind fun q76 => ((h_Ho_whileUp q76 S).bind fun q84 => (some q84))) else (if a = 9 then (some (S.2.1 602 9)) else (some (-1)))))))))))
set_option maxHeartbeats 4000000 in
set_option maxRecDepth 100000 in
theorem c_Ho_count (a : Int32) (S : hS) (h0 : am_H) (hR : RH S h0)  (q : Int32) (hd : h_Ho_count a S = some q) : am_Me am_Pr none 2 40 0 0 8 [.ref 0, .int a] h0 (am_is (some (.int q)) h0) := by
  refine am_enter (d := hd_Ho_count) rfl (by decide +kernel) (Nat.le_of_ble_eq_true rfl) ?_
  show am_S _ _ _ _ _ _ _ (0, [some (.ref 0), some (.int a)], [], h0, 0, 0) _
  unfold h_Ho_count at hd
  refine am_steps ok_Ho_count 1 (x' := (1, [some (.ref 0), some (.int a)], [.int a], h0, 0, 0)) rfl (Nat.le_of_ble_eq_true rfl) (Nat.le_of_ble_eq_true rfl) ?_
  by_cases hc1 : a = 0
  · rw [if_pos hc1] at hd
    have KT2 : am_S am_Pr none 2 40 0 0 8 (56, [some (.ref 0), some (.int a)], [], h0, 0, 0) (am_is (some (.int q)) h0) := by
      refine am_steps ok_Ho_count 1 (x' := (57, [some (.ref 0), some (.int a)], [.ref 0], h0, 0, 0)) rfl (Nat.le_of_ble_eq_true rfl) (Nat.le_of_ble_eq_true rfl) ?_
      refine hr_get ok_Ho_count rfl hR (kd := 0) (hs_k hR (a := 0) rfl) rfl (Nat.le_of_ble_eq_true rfl) (Nat.le_of_ble_eq_true rfl) (v := .ref 9) (congrArg va_rf (hR.2.2.2.2.1 (4, 0, 9) (by decide))) (pc' := 60) rfl (Nat.le_of_ble_eq_true rfl) (Nat.le_of_ble_eq_true rfl) ?_
      refine hr_get ok_Ho_count rfl hR (kd := 6) (hs_k hR (a := 9) rfl) rfl (Nat.le_of_ble_eq_true rfl) (Nat.le_of_ble_eq_true rfl) (v := .int (S.2.1 600 9)) rfl (pc' := 63) rfl (Nat.le_of_ble_eq_true rfl) (Nat.le_of_ble_eq_true rfl) ?_
      refine am_steps ok_Ho_count 1 (x' := (if ((S.2.1 600 9) : Int32) = 0 then 70 else 66, [some (.ref 0), some (.int a)], [], h0, 0, 0)) rfl (Nat.le_of_ble_eq_true rfl) (Nat.le_of_ble_eq_true rfl) ?_
      refine am_if (fun hc3 => ?_) (fun hc3 => ?_)
      · rw [if_pos hc3] at hd
        refine am_steps ok_Ho_count 1 (x' := (71, [some (.ref 0), some (.int a)], [.int 0], h0, 0, 0)) rfl (Nat.le_of_ble_eq_true rfl) (Nat.le_of_ble_eq_true rfl) ?_
        cases hd; exact am_ret ok_Ho_count rfl (Nat.le_of_ble_eq_true rfl) (Nat.le_of_ble_eq_true rfl) ⟨rfl, rfl⟩
      · rw [if_neg hc3] at hd
        refine am_steps ok_Ho_count 2 (x' := (71, [some (.ref 0), some (.int a)], [.int 1], h0, 0, 0)) rfl (Nat.le_of_ble_eq_true rfl) (Nat.le_of_ble_eq_true rfl) ?_
        cases hd; exact am_ret ok_Ho_count rfl (Nat.le_of_ble_eq_true rfl) (Nat.le_of_ble_eq_true rfl) ⟨rfl, rfl⟩
    exact ar_tswk ok_Ho_count rfl hc1 (by decide +kernel) rfl rfl (Nat.le_of_ble_eq_true rfl) (Nat.le_of_ble_eq_true rfl) KT2
  rw [if_neg hc1] at hd
  by_cases hc5 : a = 1
  · rw [if_pos hc5] at hd
    have KT6 : am_S am_Pr none 2 40 0 0 8 (72, [some (.ref 0), some (.int a)], [], h0, 0, 0) (am_is (some (.int q)) h0) := by
      refine am_steps ok_Ho_count 2 (x' := (74, [some (.ref 0), some (.int a)], [.ref 0, .ref 0], h0, 0, 0)) rfl (Nat.le_of_ble_eq_true rfl) (Nat.le_of_ble_eq_true rfl) ?_
      refine hr_get ok_Ho_count rfl hR (kd := 0) (hs_k hR (a := 0) rfl) rfl (Nat.le_of_ble_eq_true rfl) (Nat.le_of_ble_eq_true rfl) (v := .ref 20) (congrArg va_rf (hR.2.2.2.2.1 (7, 0, 20) (by decide))) (pc' := 77) rfl (Nat.le_of_ble_eq_true rfl) (Nat.le_of_ble_eq_true rfl) ?_
      refine hr_get ok_Ho_count rfl hR (kd := 5) (hs_k hR (a := 20) rfl) rfl (Nat.le_of_ble_eq_true rfl) (Nat.le_of_ble_eq_true rfl) (v := .int (S.2.1 503 20)) rfl (pc' := 80) rfl (Nat.le_of_ble_eq_true rfl) (Nat.le_of_ble_eq_true rfl) ?_
      obtain ⟨q7, hq8, hd9⟩ := Option.bind_eq_some_iff.mp hd; clear hd; have hd := hd9; clear hd9
      refine ar_cv ok_Ho_count hk_Ho_whileUp rfl rfl (As := [.int (S.2.1 503 20)]) (ad := 0) (rest := []) rfl rfl (hR.ob (hs_k hR (a := 0) rfl) (Nat.le_of_ble_eq_true rfl)) (Nat.le_of_ble_eq_true rfl) (c_Ho_whileUp (S.2.1 503 20) S h0 hR  q7 hq8) (Nat.le_of_ble_eq_true rfl) (Nat.le_of_ble_eq_true rfl) (Nat.le_of_ble_eq_true rfl) (Nat.le_of_ble_eq_true rfl) (pc' := 83) rfl (fun r10 h12 z11 => ?_)
      obtain ⟨rfl, z14⟩ := z11; rw [z14]
      show am_S _ _ _ _ _ _ _ (83, [some (.ref 0), some (.int a)], [.int q7], h0, 0, 0) _
      cases hd; exact am_ret ok_Ho_count rfl (Nat.le_of_ble_eq_true rfl) (Nat.le_of_ble_eq_true rfl) ⟨rfl, rfl⟩
    exact ar_tswk ok_Ho_count rfl hc5 (by decide +kernel) rfl rfl (Nat.le_of_ble_eq_true rfl) (Nat.le_of_ble_eq_true rfl) KT6
  rw [if_neg hc5] at hd
  by_cases hc16 : a = 2
  · rw [if_pos hc16] at hd
    have KT17 : am_S am_Pr none 2 40 0 0 8 (84, [some (.ref 0), some (.int a)], [], h0, 0, 0) (am_is (some (.int q)) h0) := by
      refine am_steps ok_Ho_count 2 (x' := (86, [some (.ref 0), some (.int a)], [.ref 0, .ref 0], h0, 0, 0)) rfl (Nat.le_of_ble_eq_true rfl) (Nat.le_of_ble_eq_true rfl) ?_
      refine hr_get ok_Ho_count rfl hR (kd := 0) (hs_k hR (a := 0) rfl) rfl (Nat.le_of_ble_eq_true rfl) (Nat.le_of_ble_eq_true rfl) (v := .ref 20) (congrArg va_rf (hR.2.2.2.2.1 (7, 0, 20) (by decide))) (pc' := 89) rfl (Nat.le_of_ble_eq_true rfl) (Nat.le_of_ble_eq_true rfl) ?_
      refine hr_get ok_Ho_count rfl hR (kd := 5) (hs_k hR (a := 20) rfl) rfl (Nat.le_of_ble_eq_true rfl) (Nat.le_of_ble_eq_true rfl) (v := .int (S.2.1 504 20)) rfl (pc' := 92) rfl (Nat.le_of_ble_eq_true rfl) (Nat.le_of_ble_eq_true rfl) ?_
      obtain ⟨q18, hq19, hd20⟩ := Option.bind_eq_some_iff.mp hd; clear hd; have hd := hd20; clear hd20
      refine ar_cv ok_Ho_count hk_Ho_whileUp rfl rfl (As := [.int (S.2.1 504 20)]) (ad := 0) (rest := []) rfl rfl (hR.ob (hs_k hR (a := 0) rfl) (Nat.le_of_ble_eq_true rfl)) (Nat.le_of_ble_eq_true rfl) (c_Ho_whileUp (S.2.1 504 20) S h0 hR  q18 hq19) (Nat.le_of_ble_eq_true rfl) (Nat.le_of_ble_eq_true rfl) (Nat.le_of_ble_eq_true rfl) (Nat.le_of_ble_eq_true rfl) (pc' := 95) rfl (fun r21 h23 z22 => ?_)
      obtain ⟨rfl, z25⟩ := z22; rw [z25]
      show am_S _ _ _ _ _ _ _ (95, [some (.ref 0), some (.int a)], [.int q18], h0, 0, 0) _
      cases hd; exact am_ret ok_Ho_count rfl (Nat.le_of_ble_eq_true rfl) (Nat.le_of_ble_eq_true rfl) ⟨rfl, rfl⟩
    exact ar_tswk ok_Ho_count rfl hc16 (by decide +kernel) rfl rfl (Nat.le_of_ble_eq_true rfl) (Nat.le_of_ble_eq_true rfl) KT17
  rw [if_neg hc16] at hd
  by_cases hc27 : a = 3
  · rw [if_pos hc27] at hd
    have KT28 : am_S am_Pr none 2 40 0 0 8 (96, [some (.ref 0), some (.int a)], [], h0, 0, 0) (am_is (some (.int q)) h0) := by
      refine am_steps ok_Ho_count 2 (x' := (98, [some (.ref 0), some (.int a)], [.ref 0, .ref 0], h0, 0, 0)) rfl (Nat.le_of_ble_eq_true rfl) (Nat.le_of_ble_eq_true rfl) ?_
      refine hr_get ok_Ho_count rfl hR (kd := 0) (hs_k hR (a := 0) rfl) rfl (Nat.le_of_ble_eq_true rfl) (Nat.le_of_ble_eq_true rfl) (v := .ref 10) (congrArg va_rf (hR.2.2.2.2.1 (5, 0, 10) (by decide))) (pc' := 101) rfl (Nat.le_of_ble_eq_true rfl) (Nat.le_of_ble_eq_true rfl) ?_
      refine hr_get ok_Ho_count rfl hR (kd := 4) (hs_k hR (a := 10) rfl) rfl (Nat.le_of_ble_eq_true rfl) (Nat.le_of_ble_eq_true rfl) (v := .int (S.2.1 401 10)) rfl (pc' := 104) rfl (Nat.le_of_ble_eq_true rfl) (Nat.le_of_ble_eq_true rfl) ?_
      obtain ⟨q29, hq30, hd31⟩ := Option.bind_eq_some_iff.mp hd; clear hd; have hd := hd31; clear hd31
      refine ar_cv ok_Ho_count hk_Ho_whileUp rfl rfl (As := [.int (S.2.1 401 10)]) (ad := 0) (rest := []) rfl rfl (hR.ob (hs_k hR (a := 0) rfl) (Nat.le_of_ble_eq_true rfl)) (Nat.le_of_ble_eq_true rfl) (c_Ho_whileUp (S.2.1 401 10) S h0 hR  q29 hq30) (Nat.le_of_ble_eq_true rfl) (Nat.le_of_ble_eq_true rfl) (Nat.le_of_ble_eq_true rfl) (Nat.le_of_ble_eq_true rfl) (pc' := 107) rfl (fun r32 h34 z33 => ?_)
      obtain ⟨rfl, z36⟩ := z33; rw [z36]
      show am_S _ _ _ _ _ _ _ (107, [some (.ref 0), some (.int a)], [.int q29], h0, 0, 0) _
      cases hd; exact am_ret ok_Ho_count rfl (Nat.le_of_ble_eq_true rfl) (Nat.le_of_ble_eq_true rfl) ⟨rfl, rfl⟩
    exact ar_tswk ok_Ho_count rfl hc27 (by decide +kernel) rfl rfl (Nat.le_of_ble_eq_true rfl) (Nat.le_of_ble_eq_true rfl) KT28
  rw [if_neg hc27] at hd
  by_cases hc38 : a = 4
  · rw [if_pos hc38] at hd
    have KT39 : am_S am_Pr none 2 40 0 0 8 (108, [some (.ref 0), some (.int a)], [], h0, 0, 0) (am_is (some (.int q)) h0) := by
      refine am_steps ok_Ho_count 2 (x' := (110, [some (.ref 0), some (.int a)], [.ref 0, .ref 0], h0, 0, 0)) rfl (Nat.le_of_ble_eq_true rfl) (Nat.le_of_ble_eq_true rfl) ?_
      refine hr_get ok_Ho_count rfl hR (kd := 0) (hs_k hR (a := 0) rfl) rfl (Nat.le_of_ble_eq_true rfl) (Nat.le_of_ble_eq_true rfl) (v := .ref 10) (congrArg va_rf (hR.2.2.2.2.1 (5, 0, 10) (by decide))) (pc' := 113) rfl (Nat.le_of_ble_eq_true rfl) (Nat.le_of_ble_eq_true rfl) ?_
      refine hr_get ok_Ho_count rfl hR (kd := 4) (hs_k hR (a := 10) rfl) rfl (Nat.le_of_ble_eq_true rfl) (Nat.le_of_ble_eq_true rfl) (v := .int (S.2.1 403 10)) rfl (pc' := 116) rfl (Nat.le_of_ble_eq_true rfl) (Nat.le_of_ble_eq_true rfl) ?_
      obtain ⟨q40, hq41, hd42⟩ := Option.bind_eq_some_iff.mp hd; clear hd; have hd := hd42; clear hd42
      refine ar_cv ok_Ho_count hk_Ho_whileUp rfl rfl (As := [.int (S.2.1 403 10)]) (ad := 0) (rest := []) rfl rfl (hR.ob (hs_k hR (a := 0) rfl) (Nat.le_of_ble_eq_true rfl)) (Nat.le_of_ble_eq_true rfl) (c_Ho_whileUp (S.2.1 403 10) S h0 hR  q40 hq41) (Nat.le_of_ble_eq_true rfl) (Nat.le_of_ble_eq_true rfl) (Nat.le_of_ble_eq_true rfl) (Nat.le_of_ble_eq_true rfl) (pc' := 119) rfl (fun r43 h45 z44 => ?_)
      obtain ⟨rfl, z47⟩ := z44; rw [z47]
      show am_S _ _ _ _ _ _ _ (119, [some (.ref 0), some (.int a)], [.int q40], h0, 0, 0) _
      cases hd; exact am_ret ok_Ho_count rfl (Nat.le_of_ble_eq_true rfl) (Nat.le_of_ble_eq_true rfl) ⟨rfl, rfl⟩
    exact ar_tswk ok_Ho_count rfl hc38 (by decide +kernel) rfl rfl (Nat.le_of_ble_eq_true rfl) (Nat.le_of_ble_eq_true rfl) KT39
  rw [if_neg hc38] at hd
  by_cases hc49 : a = 5
  · rw [if_pos hc49] at hd
    have KT50 : am_S am_Pr none 2 40 0 0 8 (120, [some (.ref 0), some (.int a)], [], h0, 0, 0) (am_is (some (.int q)) h0) := by
      refine am_steps ok_Ho_count 2 (x' := (122, [some (.ref 0), some (.int a)], [.ref 0, .ref 0], h0, 0, 0)) rfl (Nat.le_of_ble_eq_true rfl) (Nat.le_of_ble_eq_true rfl) ?_
      refine hr_get ok_Ho_count rfl hR (kd := 0) (hs_k hR (a := 0) rfl) rfl (Nat.le_of_ble_eq_true rfl) (Nat.le_of_ble_eq_true rfl) (v := .ref 16) (congrArg va_rf (hR.2.2.2.2.1 (6, 0, 16) (by decide))) (pc' := 125) rfl (Nat.le_of_ble_eq_true rfl) (Nat.le_of_ble_eq_true rfl) ?_
      refine hr_get ok_Ho_count rfl hR (kd := 11) (hs_k hR (a := 16) rfl) rfl (Nat.le_of_ble_eq_true rfl) (Nat.le_of_ble_eq_true rfl) (v := .int (S.2.1 1101 16)) rfl (pc' := 128) rfl (Nat.le_of_ble_eq_true rfl) (Nat.le_of_ble_eq_true rfl) ?_
      obtain ⟨q51, hq52, hd53⟩ := Option.bind_eq_some_iff.mp hd; clear hd; have hd := hd53; clear hd53
      refine ar_cv ok_Ho_count hk_Ho_whileUp rfl rfl (As := [.int (S.2.1 1101 16)]) (ad := 0) (rest := []) rfl rfl (hR.ob (hs_k hR (a := 0) rfl) (Nat.le_of_ble_eq_true rfl)) (Nat.le_of_ble_eq_true rfl) (c_Ho_whileUp (S.2.1 1101 16) S h0 hR  q51 hq52) (Nat.le_of_ble_eq_true rfl) (Nat.le_of_ble_eq_true rfl) (Nat.le_of_ble_eq_true rfl) (Nat.le_of_ble_eq_true rfl) (pc' := 131) rfl (fun r54 h56 z55 => ?_)
      obtain ⟨rfl, z58⟩ := z55; rw [z58]
      show am_S _ _ _ _ _ _ _ (131, [some (.ref 0), some (.int a)], [.int q51], h0, 0, 0) _
      cases hd; exact am_ret ok_Ho_count rfl (Nat.le_of_ble_eq_true rfl) (Nat.le_of_ble_eq_true rfl) ⟨rfl, rfl⟩
    exact ar_tswk ok_Ho_count rfl hc49 (by decide +kernel) rfl rfl (Nat.le_of_ble_eq_true rfl) (Nat.le_of_ble_eq_true rfl) KT50
  rw [if_neg hc49] at hd
  by_cases hc60 : a = 6
  · rw [if_pos hc60] at hd
    have KT61 : am_S am_Pr none 2 40 0 0 8 (132, [some (.ref 0), some (.int a)], [], h0, 0, 0) (am_is (some (.int q)) h0) := by
      refine am_steps ok_Ho_count 2 (x' := (134, [some (.ref 0), some (.int a)], [.ref 0, .ref 0], h0, 0, 0)) rfl (Nat.le_of_ble_eq_true rfl) (Nat.le_of_ble_eq_true rfl) ?_
      refine hr_get ok_Ho_count rfl hR (kd := 0) (hs_k hR (a := 0) rfl) rfl (Nat.le_of_ble_eq_true rfl) (Nat.le_of_ble_eq_true rfl) (v := .ref 16) (congrArg va_rf (hR.2.2.2.2.1 (6, 0, 16) (by decide))) (pc' := 137) rfl (Nat.le_of_ble_eq_true rfl) (Nat.le_of_ble_eq_true rfl) ?_
      refine hr_get ok_Ho_count rfl hR (kd := 11) (hs_k hR (a := 16) rfl) rfl (Nat.le_of_ble_eq_true rfl) (Nat.le_of_ble_eq_true rfl) (v := .int (S.2.1 1103 16)) rfl (pc' := 140) rfl (Nat.le_of_ble_eq_true rfl) (Nat.le_of_ble_eq_true rfl) ?_
      obtain ⟨q62, hq63, hd64⟩ := Option.bind_eq_some_iff.mp hd; clear hd; have hd := hd64; clear hd64
      refine ar_cv ok_Ho_count hk_Ho_whileUp rfl rfl (As := [.int (S.2.1 1103 16)]) (ad := 0) (rest := []) rfl rfl (hR.ob (hs_k hR (a := 0) rfl) (Nat.le_of_ble_eq_true rfl)) (Nat.le_of_ble_eq_true rfl) (c_Ho_whileUp (S.2.1 1103 16) S h0 hR  q62 hq63) (Nat.le_of_ble_eq_true rfl) (Nat.le_of_ble_eq_true rfl) (Nat.le_of_ble_eq_true rfl) (Nat.le_of_ble_eq_true rfl) (pc' := 143) rfl (fun r65 h67 z66 => ?_)
      obtain ⟨rfl, z69⟩ := z66; rw [z69]
      show am_S _ _ _ _ _ _ _ (143, [some (.ref 0), some (.int a)], [.int q62], h0, 0, 0) _
      cases hd; exact am_ret ok_Ho_count rfl (Nat.le_of_ble_eq_true rfl) (Nat.le_of_ble_eq_true rfl) ⟨rfl, rfl⟩
    exact ar_tswk ok_Ho_count rfl hc60 (by decide +kernel) rfl rfl (Nat.le_of_ble_eq_true rfl) (Nat.le_of_ble_eq_true rfl) KT61
  rw [if_neg hc60] at hd
  by_cases hc71 : a = 7
  · rw [if_pos hc71] at hd
    have KT72 : am_S am_Pr none 2 40 0 0 8 (144, [some (.ref 0), some (.int a)], [], h0, 0, 0) (am_is (some (.int q)) h0) := by
      refine am_steps ok_Ho_count 1 (x' := (145, [some (.ref 0), some (.int a)], [.ref 0], h0, 0, 0)) rfl (Nat.le_of_ble_eq_true rfl) (Nat.le_of_ble_eq_true rfl) ?_
      refine hr_get ok_Ho_count rfl hR (kd := 0) (hs_k hR (a := 0) rfl) rfl (Nat.le_of_ble_eq_true rfl) (Nat.le_of_ble_eq_true rfl) (v := .int (S.2.1 1 0)) rfl (pc' := 148) rfl (Nat.le_of_ble_eq_true rfl) (Nat.le_of_ble_eq_true rfl) ?_
      cases hd; exact am_ret ok_Ho_count rfl (Nat.le_of_ble_eq_true rfl) (Nat.le_of_ble_eq_true rfl) ⟨rfl, rfl⟩
    exact ar_tswk ok_Ho_count rfl hc71 (by decide +kernel) rfl rfl (Nat.le_of_ble_eq_true rfl) (Nat.le_of_ble_eq_true rfl) KT72
  rw [if_neg hc71] at hd
  by_cases hc74 : a = 8
  · rw [if_pos hc74] at hd
    have KT75 : am_S am_Pr none 2 40 0 0 8 (149, [some (.ref 0), some (.int a)], [], h0, 0, 0) (am_is (some (.int q)) h0) := by
      refine am_steps ok_Ho_count 2 (x' := (151, [some (.ref 0), some (.int a)], [.ref 0, .ref 0], h0, 0, 0)) rfl (Nat.le_of_ble_eq_true rfl) (Nat.le_of_ble_eq_true rfl) ?_
      refine hr_get ok_Ho_count rfl hR (kd := 0) (hs_k hR (a := 0) rfl) rfl (Nat.le_of_ble_eq_true rfl) (Nat.le_of_ble_eq_true rfl) (v := .ref 9) (congrArg va_rf (hR.2.2.2.2.1 (4, 0, 9) (by decide))) (pc' := 154) rfl (Nat.le_of_ble_eq_true rfl) (Nat.le_of_ble_eq_true rfl) ?_
      obtain ⟨q76, hq77, hd78⟩ := Option.bind_eq_some_iff.mp hd; clear hd; have hd := hd78; clear hd78
      refine ar_cv ok_Ho_count hk_Di_journalBlocks rfl rfl (As := []) (ad := 9) (rest := [.ref 0]) rfl rfl (hR.ob (hs_k hR (a := 9) rfl) (Nat.le_of_ble_eq_true rfl)) (Nat.le_of_ble_eq_true rfl) (c_Di_journalBlocks  S h0 hR  q76 hq77) (Nat.le_of_ble_eq_true rfl) (Nat.le_of_ble_eq_true rfl) (Nat.le_of_ble_eq_true rfl) (Nat.le_of_ble_eq_true rfl) (pc' := 157) rfl (fun r79 h81 z80 => ?_)
      obtain ⟨rfl, z83⟩ := z80; rw [z83]
      show am_S _ _ _ _ _ _ _ (157, [some (.ref 0), some (.int a)], [.int q76, .ref 0], h0, 0, 0) _
      obtain ⟨q84, hq85, hd86⟩ := Option.bind_eq_some_iff.mp hd; clear hd; have hd := hd86; clear hd86
      refine ar_cv ok_Ho_count hk_Ho_whileUp rfl rfl (As := [.int q76]) (ad := 0) (rest := []) rfl rfl (hR.ob (hs_k hR (a := 0) rfl) (Nat.le_of_ble_eq_true rfl)) (Nat.le_of_ble_eq_true rfl) (c_Ho_whileUp q76 S h0 hR  q84 hq85) (Nat.le_of_ble_eq_true rfl) (Nat.le_of_ble_eq_true rfl) (Nat.le_of_ble_eq_true rfl) (Nat.le_of_ble_eq_true rfl) (pc' := 160) rfl (fun r87 h89 z88 => ?_)
      obtain ⟨rfl, z91⟩ := z88; rw [z91]
      show am_S _ _ _ _ _ _ _ (160, [some (.ref 0), some (.int a)], [.int q84], h0, 0, 0) _
      cases hd; exact am_ret ok_Ho_count rfl (Nat.le_of_ble_eq_true rfl) (Nat.le_of_ble_eq_true rfl) ⟨rfl, rfl⟩
    exact ar_tswk ok_Ho_count rfl hc74 (by decide +kernel) rfl rfl (Nat.le_of_ble_eq_true rfl) (Nat.le_of_ble_eq_true rfl) KT75
  rw [if_neg hc74] at hd
  by_cases hc93 : a = 9
  · rw [if_pos hc93] at hd
    have KT94 : am_S am_Pr none 2 40 0 0 8 (161, [some (.ref 0), some (.int a)], [], h0, 0, 0) (am_is (some (.int q)) h0) := by
      refine am_steps ok_Ho_count 1 (x' := (162, [some (.ref 0), some (.int a)], [.ref 0], h0, 0, 0)) rfl (Nat.le_of_ble_eq_true rfl) (Nat.le_of_ble_eq_true rfl) ?_
      refine hr_get ok_Ho_count rfl hR (kd := 0) (hs_k hR (a := 0) rfl) rfl (Nat.le_of_ble_eq_true rfl) (Nat.le_of_ble_eq_true rfl) (v := .ref 9) (congrArg va_rf (hR.2.2.2.2.1 (4, 0, 9) (by decide))) (pc' := 165) rfl (Nat.le_of_ble_eq_true rfl) (Nat.le_of_ble_eq_true rfl) ?_
      refine hr_get ok_Ho_count rfl hR (kd := 6) (hs_k hR (a := 9) rfl) rfl (Nat.le_of_ble_eq_true rfl) (Nat.le_of_ble_eq_true rfl) (v := .int (S.2.1 602 9)) rfl (pc' := 168) rfl (Nat.le_of_ble_eq_true rfl) (Nat.le_of_ble_eq_true rfl) ?_
      cases hd; exact am_ret ok_Ho_count rfl (Nat.le_of_ble_eq_true rfl) (Nat.le_of_ble_eq_true rfl) ⟨rfl, rfl⟩
    exact ar_tswk ok_Ho_count rfl hc93 (by decide +kernel) rfl rfl (Nat.le_of_ble_eq_true rfl) (Nat.le_of_ble_eq_true rfl) KT94
  rw [if_neg hc93] at hd
  have KT96 : am_S am_Pr none 2 40 0 0 8 (169, [some (.ref 0), some (.int a)], [], h0, 0, 0) (am_is (some (.int q)) h0) := by
    refine am_steps ok_Ho_count 1 (x' := (170, [some (.ref 0), some (.int a)], [.int (-1)], h0, 0, 0)) rfl (Nat.le_of_ble_eq_true rfl) (Nat.le_of_ble_eq_true rfl) ?_
    cases hd; exact am_ret ok_Ho_count rfl (Nat.le_of_ble_eq_true rfl) (Nat.le_of_ble_eq_true rfl) ⟨rfl, rfl⟩
  have ho101 : a.toInt < 0 ∨ 9 < a.toInt := tsw_out (fun c98 h99 h100 e97 => by
    have c98x : c98 = 0 ∨ c98 = 1 ∨ c98 = 2 ∨ c98 = 3 ∨ c98 = 4 ∨ c98 = 5 ∨ c98 = 6 ∨ c98 = 7 ∨ c98 = 8 ∨ c98 = 9 := by omega
    rcases c98x with rfl | rfl | rfl | rfl | rfl | rfl | rfl | rfl | rfl | rfl
    · exact hc1 e97
    · exact hc5 e97
    · exact hc16 e97
    · exact hc27 e97
    · exact hc38 e97
    · exact hc49 e97
    · exact hc60 e97
    · exact hc71 e97
    · exact hc74 e97
    · exact hc93 e97)
  exact ar_tsw ok_Ho_count rfl ho101 rfl (Nat.le_of_ble_eq_true rfl) (Nat.le_of_ble_eq_true rfl) KT96
def h_Ho_broken  (S : hS) : Option (Int32) := some 0
set_option maxHeartbeats 4000000 in
set_option maxRecDepth 100000 in
theorem c_Ho_broken  (S : hS) (h0 : am_H) (hR : RH S h0)  (q : Int32) (hd : h_Ho_broken  S = some q) : am_Me am_Pr none 0 0 0 0 9 [.ref 0] h0 (am_is (some (.int q)) h0) := by
  refine am_enter (d := hd_Ho_broken) rfl (by decide +kernel) (Nat.le_of_ble_eq_true rfl) ?_
  show am_S _ _ _ _ _ _ _ (0, [some (.ref 0)], [], h0, 0, 0) _
  unfold h_Ho_broken at hd
  refine am_steps ok_Ho_broken 1 (x' := (1, [some (.ref 0)], [.int 0], h0, 0, 0)) rfl (Nat.le_of_ble_eq_true rfl) (Nat.le_of_ble_eq_true rfl) ?_
  cases hd; exact am_ret ok_Ho_broken rfl (Nat.le_of_ble_eq_true rfl) (Nat.le_of_ble_eq_true rfl) ⟨rfl, rfl⟩
