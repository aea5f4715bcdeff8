/-! Methods of the class as functions of its state. -/
def hl_An_putCode_6 : Nat → Int64 → Int32 → Int64 → Int32 → hS → Option (Int64)
  | 0, _, _, _, _, _ => none
  | fu + 1, v1, v3, v4, v6, s => if (v3 : Int32) ≤ v6 then (some v4) else (hl_An_putCode_6 fu v1 v3 (v4 * (Int64.ofNat 36)) (v6 + 1) s)
set_option maxHeartbeats 4000000 in
set_option maxRecDepth 100000 in
theorem Lc_An_putCode_6 {Q : Option Value → am_H → Prop} (s : hS) (h : am_H) (hR : RH s h) : ∀ (fu : Nat) (v1 : Int64) (v3 : Int32) (v4 : Int64) (v6 : Int32), ∀ (q : Int64), hl_An_putCode_6 fu v1 v3 v4 v6 s = some q → (am_S am_Pr none 1 21 0 0 103 (26, [some (.ref 7), some (.long v1), none, some (.int v3), some (.long q), none, none, none], [], h, 0, 0) Q) → am_S am_Pr none 1 21 0 0 103 (6, [some (.ref 7), some (.long v1), none, some (.int v3), some (.long v4), none, some (.int v6), none], [], h, 0, 0) Q := by
  intro fu
  induction fu with
  | zero => intro v1 v3 v4 v6  q hd; cases hd
  | succ fu ih =>
    intro v1 v3 v4 v6  q hd kk
    unfold hl_An_putCode_6 at hd
    refine am_steps ok_An_putCode 3 (x' := (if (v3 : Int32) ≤ v6 then 26 else 12, [some (.ref 7), some (.long v1), none, some (.int v3), some (.long v4), none, some (.int v6), none], [], h, 0, 0)) rfl (Nat.le_of_ble_eq_true rfl) (Nat.le_of_ble_eq_true rfl) ?_
    refine am_if (fun hc1 => ?_) (fun hc1 => ?_)
    · rw [if_pos hc1] at hd
      refine am_drop 6 ?_
      cases hd; exact kk 
    · rw [if_neg hc1] at hd
      refine am_steps ok_An_putCode 6 (x' := (6, [some (.ref 7), some (.long v1), none, some (.int v3), some (.long (v4 * (Int64.ofNat 36))), none, some (.int (v6 + 1)), none], [], h, 0, 0)) rfl (Nat.le_of_ble_eq_true rfl) (Nat.le_of_ble_eq_true rfl) ?_
      exact ih v1 v3 (v4 * (Int64.ofNat 36)) (v6 + 1)  q hd kk
def hl_An_putCode_29 : Nat → Int64 → Int32 → Int64 → Int32 → hS → Option (hS)
  | 0, _, _, _, _, _ => none
  | fu + 1, v1, v3, v4, v6, s => if (v3 : Int32) ≤ v6 then (some s) else (if ((lg_cmp v4 0) : Int32) ≤ 0 then (some s) else (if v4 = 0 then none else ((if (10 : Int32) ≤ (Int64.toInt32 ((v1 / v4) - (v1 / v4) / (Int64.ofNat 36) * (Int64.ofNat 36))) then (some ((65 + (Int64.toInt32 ((v1 / v4) - (v1 / v4) / (Int64.ofNat 36) * (Int64.ofNat 36)))) - 10)) else (some (48 + (Int64.toInt32 ((v1 / v4) - (v1 / v4) / (Int64.ofNat 36) * (Int64.ofNat 36)))))).bind fun (u8 : Int32) => ((h_An_put u8 s).bind fun q12 => (hl_An_putCode_29 fu v1 v3 (v4 / (Int64.ofNat 36)) (v6 + 1) q12)))))
set_option maxHeartbeats 4000000 in
set_option maxRecDepth 100000 in
theorem Lc_An_putCode_29 {Q : Option Value → am_H → Prop} (sh0 : List (Nat × Nat)) (h0 : am_H) : ∀ (fu : Nat) (v1 : Int64) (v3 : Int32) (v4 : Int64) (v6 : Int32) (s : hS) (h : am_H), RH s h → hF h0 h → hE sh0 s.1 → ∀ q : hS, hl_An_putCode_29 fu v1 v3 v4 v6 s = some q → (∀ h' : am_H, RH q h' → hF h0 h' → hE sh0 q.1 → am_S am_Pr none 1 21 0 0 103 (94, [some (.ref 7), some (.long v1), none, some (.int v3), none, none, none, none], [], h', 0, 0) Q) → am_S am_Pr none 1 21 0 0 103 (29, [some (.ref 7), some (.long v1), none, some (.int v3), some (.long v4), none, some (.int v6), none], [], h, 0, 0) Q := by
  intro fu
  induction fu with
  | zero => intro v1 v3 v4 v6 s h hR f he  q hd; cases hd
  | succ fu ih =>
    intro v1 v3 v4 v6 s h hR f he  q hd kk
    unfold hl_An_putCode_29 at hd
    refine am_steps ok_An_putCode 3 (x' := (if (v3 : Int32) ≤ v6 then 94 else 35, [some (.ref 7), some (.long v1), none, some (.int v3), some (.long v4), none, some (.int v6), none], [], h, 0, 0)) rfl (Nat.le_of_ble_eq_true rfl) (Nat.le_of_ble_eq_true rfl) ?_
    refine am_if (fun hc5 => ?_) (fun hc5 => ?_)
    · rw [if_pos hc5] at hd
      refine am_drop 4 ?_
      refine am_drop 6 ?_
      cases hd; exact kk h hR f he 
    · rw [if_neg hc5] at hd
      refine am_steps ok_An_putCode 4 (x' := (if ((lg_cmp v4 0) : Int32) ≤ 0 then 94 else 42, [some (.ref 7), some (.long v1), none, some (.int v3), some (.long v4), none, some (.int v6), none], [], h, 0, 0)) rfl (Nat.le_of_ble_eq_true rfl) (Nat.le_of_ble_eq_true rfl) ?_
      refine am_if (fun hc6 => ?_) (fun hc6 => ?_)
      · rw [if_pos hc6] at hd
        refine am_drop 4 ?_
        refine am_drop 6 ?_
        cases hd; exact kk h hR f he 
      · rw [if_neg hc6] at hd
        refine am_steps ok_An_putCode 2 (x' := (45, [some (.ref 7), some (.long v1), none, some (.int v3), some (.long v4), none, some (.int v6), none], [.long v4, .long v1], h, 0, 0)) rfl (Nat.le_of_ble_eq_true rfl) (Nat.le_of_ble_eq_true rfl) ?_
        split at hd
        · cases hd
        · rename_i hne7
          refine ar_ldiv ok_An_putCode rfl hne7 (w := (v1 / v4)) rfl (pc' := 46) rfl (Nat.le_of_ble_eq_true rfl) (Nat.le_of_ble_eq_true rfl) ?_
          refine am_steps ok_An_putCode 1 (x' := (49, [some (.ref 7), some (.long v1), none, some (.int v3), some (.long v4), none, some (.int v6), none], [.long (Int64.ofNat 36), .long (v1 / v4)], h, 0, 0)) rfl (Nat.le_of_ble_eq_true rfl) (Nat.le_of_ble_eq_true rfl) ?_
          refine ar_lrem ok_An_putCode rfl (by decide +kernel) (w := ((v1 / v4) - (v1 / v4) / (Int64.ofNat 36) * (Int64.ofNat 36))) rfl (pc' := 50) rfl (Nat.le_of_ble_eq_true rfl) (Nat.le_of_ble_eq_true rfl) ?_
          refine am_steps ok_An_putCode 6 (x' := (if (10 : Int32) ≤ (Int64.toInt32 ((v1 / v4) - (v1 / v4) / (Int64.ofNat 36) * (Int64.ofNat 36))) then 69 else 61, [some (.ref 7), some (.long v1), none, some (.int v3), some (.long v4), none, some (.int v6), some (.int (Int64.toInt32 ((v1 / v4) - (v1 / v4) / (Int64.ofNat 36) * (Int64.ofNat 36))))], [.ref 7], h, 0, 0)) rfl (Nat.le_of_ble_eq_true rfl) (Nat.le_of_ble_eq_true rfl) ?_
          obtain ⟨u8, hA10, hB11⟩ := Option.bind_eq_some_iff.mp hd; clear hd
          have K9 : am_S am_Pr none 1 21 0 0 103 (77, [some (.ref 7), some (.long v1), none, some (.int v3), some (.long v4), none, some (.int v6), none], [.int u8, .ref 7], h, 0, 0) Q := by
            have hd := hB11
            obtain ⟨q12, hq13, hd14⟩ := Option.bind_eq_some_iff.mp hd; clear hd; have hd := hd14; clear hd14
            refine ar_cv ok_An_putCode hk_An_put rfl rfl (As := [.int u8]) (ad := 7) (rest := []) rfl rfl (hR.ob (hs_k hR (a := 7) rfl) (Nat.le_of_ble_eq_true rfl)) (Nat.le_of_ble_eq_true rfl) (c_An_put u8 s h hR  q12 hq13) (Nat.le_of_ble_eq_true rfl) (Nat.le_of_ble_eq_true rfl) (Nat.le_of_ble_eq_true rfl) (Nat.le_of_ble_eq_true rfl) (pc' := 80) rfl (fun r15 h17 z16 => ?_)
            obtain ⟨rfl, hR19, g20, e21⟩ := z16
            have f22 := hF.tr f g20
            show am_S _ _ _ _ _ _ _ (80, [some (.ref 7), some (.long v1), none, some (.int v3), some (.long v4), none, some (.int v6), none], [], h17, 0, 0) _
            refine am_steps ok_An_putCode 2 (x' := (85, [some (.ref 7), some (.long v1), none, some (.int v3), some (.long v4), none, some (.int v6), none], [.long (Int64.ofNat 36), .long v4], h17, 0, 0)) rfl (Nat.le_of_ble_eq_true rfl) (Nat.le_of_ble_eq_true rfl) ?_
            refine ar_ldiv ok_An_putCode rfl (by decide +kernel) (w := (v4 / (Int64.ofNat 36))) rfl (pc' := 86) rfl (Nat.le_of_ble_eq_true rfl) (Nat.le_of_ble_eq_true rfl) ?_
            refine am_steps ok_An_putCode 3 (x' := (29, [some (.ref 7), some (.long v1), none, some (.int v3), some (.long (v4 / (Int64.ofNat 36))), none, some (.int (v6 + 1)), none], [], h17, 0, 0)) rfl (Nat.le_of_ble_eq_true rfl) (Nat.le_of_ble_eq_true rfl) ?_
            exact ih v1 v3 (v4 / (Int64.ofNat 36)) (v6 + 1) q12 h17 hR19 f22 (he.tr e21)  q hd kk
          clear hB11; have hd := hA10; clear hA10
          refine am_if (fun hc23 => ?_) (fun hc23 => ?_)
          · rw [if_pos hc23] at hd
            refine am_steps ok_An_putCode 5 (x' := (77, [some (.ref 7), some (.long v1), none, some (.int v3), some (.long v4), none, some (.int v6), some (.int (Int64.toInt32 ((v1 / v4) - (v1 / v4) / (Int64.ofNat 36) * (Int64.ofNat 36))))], [.int ((65 + (Int64.toInt32 ((v1 / v4) - (v1 / v4) / (Int64.ofNat 36) * (Int64.ofNat 36)))) - 10), .ref 7], h, 0, 0)) rfl (Nat.le_of_ble_eq_true rfl) (Nat.le_of_ble_eq_true rfl) ?_
            refine am_drop 7 ?_
            cases hd; exact K9 
          · rw [if_neg hc23] at hd
            refine am_steps ok_An_putCode 4 (x' := (77, [some (.ref 7), some (.long v1), none, some (.int v3), some (.long v4), none, some (.int v6), some (.int (Int64.toInt32 ((v1 / v4) - (v1 / v4) / (Int64.ofNat 36) * (Int64.ofNat 36))))], [.int (48 + (Int64.toInt32 ((v1 / v4) - (v1 / v4) / (Int64.ofNat 36) * (Int64.ofNat 36)))), .ref 7], h, 0, 0)) rfl (Nat.le_of_ble_eq_true rfl) (Nat.le_of_ble_eq_true rfl) ?_
            refine am_drop 7 ?_
            cases hd; exact K9 
def h_An_putCode (a : Int64) (b : Int32) (S : hS) : Option (hS) := (hl_An_putCode_6 100000 a b 1 1 S).bind fun q2 => ((hl_An_putCode_29 100000 a b q2 0 S).bind fun q24 => (some q24))
set_option maxHeartbeats 4000000 in
set_option maxRecDepth 100000 in
theorem c_An_putCode (a : Int64) (b : Int32) (S : hS) (h0 : am_H) (hR : RH S h0)  (q : hS) (hd : h_An_putCode a b S = some q) : am_Me am_Pr none 1 21 0 0 103 [.ref 7, .long a, .int b] h0 (hQv q S.1 h0) := by
  refine am_enter (d := hd_An_putCode) rfl (by decide +kernel) (Nat.le_of_ble_eq_true rfl) ?_
  show am_S _ _ _ _ _ _ _ (0, [some (.ref 7), some (.long a), none, some (.int b), none, none, none, none], [], h0, 0, 0) _
  unfold h_An_putCode at hd
  refine am_steps ok_An_putCode 4 (x' := (6, [some (.ref 7), some (.long a), none, some (.int b), some (.long 1), none, some (.int 1), none], [], h0, 0, 0)) rfl (Nat.le_of_ble_eq_true rfl) (Nat.le_of_ble_eq_true rfl) ?_
  obtain ⟨q2, hq3, hd4⟩ := Option.bind_eq_some_iff.mp hd; clear hd; have hd := hd4; clear hd4
  refine Lc_An_putCode_6 S h0 hR 100000 a b 1 1  q2 hq3 ?_
  show am_S _ _ _ _ _ _ _ (26, [some (.ref 7), some (.long a), none, some (.int b), some (.long q2), none, none, none], [], h0, 0, 0) _
  refine am_steps ok_An_putCode 2 (x' := (29, [some (.ref 7), some (.long a), none, some (.int b), some (.long q2), none, some (.int 0), none], [], h0, 0, 0)) rfl (Nat.le_of_ble_eq_true rfl) (Nat.le_of_ble_eq_true rfl) ?_
  obtain ⟨q24, hq25, hd26⟩ := Option.bind_eq_some_iff.mp hd; clear hd; have hd := hd26; clear hd26
  refine Lc_An_putCode_29 S.1 h0 100000 a b q2 0 S h0 hR hF.rf hE.rf  q24 hq25 (fun h27 hR28 f29 e30 => ?_)
  show am_S _ _ _ _ _ _ _ (94, [some (.ref 7), some (.long a), none, some (.int b), none, none, none, none], [], h27, 0, 0) _
  cases hd; exact am_ret ok_An_putCode rfl (Nat.le_of_ble_eq_true rfl) (Nat.le_of_ble_eq_true rfl) ⟨rfl, hR28, f29, (hE.rf.tr e30)⟩
def hl_An_putNumber_25 : Nat → Int64 → Int32 → Int64 → hS → Option (hS)
  | 0, _, _, _, _ => none
  | fu + 1, v3, v5, v6, s => if ((lg_cmp v6 0) : Int32) ≤ 0 then (some s) else (if v6 = 0 then none else ((if ¬ (v5 : Int32) = 0 then (some 1) else (if ¬ ((Int64.toInt32 ((v3 / v6) - (v3 / v6) / (Int64.ofNat 10) * (Int64.ofNat 10))) : Int32) = 0 then (some 1) else (if ¬ ((lg_cmp v6 1) : Int32) = 0 then (some 0) else (some 1)))).bind fun (u11 : Int32) => ((if (u11 : Int32) = 0 then (some s) else ((h_An_put (48 + (Int64.toInt32 ((v3 / v6) - (v3 / v6) / (Int64.ofNat 10) * (Int64.ofNat 10)))) s).bind fun q24 => (some q24))).bind fun (u15 : hS) => (hl_An_putNumber_25 fu v3 u11 (v6 / (Int64.ofNat 10)) u15))))
set_option maxHeartbeats 4000000 in
set_option maxRecDepth 100000 in
theorem Lc_An_putNumber_25 {Q : Option Value → am_H → Prop} (sh0 : List (Nat × Nat)) (h0 : am_H) : ∀ (fu : Nat) (v3 : Int64) (v5 : Int32) (v6 : Int64) (s : hS) (h : am_H), RH s h → hF h0 h → hE sh0 s.1 → ∀ q : hS, hl_An_putNumber_25 fu v3 v5 v6 s = some q → (∀ h' : am_H, RH q h' → hF h0 h' → hE sh0 q.1 → am_S am_Pr none 1 30 0 0 104 (92, [some (.ref 7), none, none, some (.long v3), none, none, none, none, none], [], h', 0, 0) Q) → am_S am_Pr none 1 30 0 0 104 (25, [some (.ref 7), none, none, some (.long v3), none, some (.int v5), some (.long v6), none, none], [], h, 0, 0) Q := by
  intro fu
  induction fu with
  | zero => intro v3 v5 v6 s h hR f he  q hd; cases hd
  | succ fu ih =>
    intro v3 v5 v6 s h hR f he  q hd kk
    unfold hl_An_putNumber_25 at hd
    refine am_steps ok_An_putNumber 4 (x' := (if ((lg_cmp v6 0) : Int32) ≤ 0 then 92 else 32, [some (.ref 7), none, none, some (.long v3), none, some (.int v5), some (.long v6), none, none], [], h, 0, 0)) rfl (Nat.le_of_ble_eq_true rfl) (Nat.le_of_ble_eq_true rfl) ?_
    refine am_if (fun hc9 => ?_) (fun hc9 => ?_)
    · rw [if_pos hc9] at hd
      refine am_drop 5 ?_
      refine am_drop 6 ?_
      cases hd; exact kk h hR f he 
    · rw [if_neg hc9] at hd
      refine am_steps ok_An_putNumber 2 (x' := (35, [some (.ref 7), none, none, some (.long v3), none, some (.int v5), some (.long v6), none, none], [.long v6, .long v3], h, 0, 0)) rfl (Nat.le_of_ble_eq_true rfl) (Nat.le_of_ble_eq_true rfl) ?_
      split at hd
      · cases hd
      · rename_i hne10
        refine ar_ldiv ok_An_putNumber rfl hne10 (w := (v3 / v6)) rfl (pc' := 36) rfl (Nat.le_of_ble_eq_true rfl) (Nat.le_of_ble_eq_true rfl) ?_
        refine am_steps ok_An_putNumber 1 (x' := (39, [some (.ref 7), none, none, some (.long v3), none, some (.int v5), some (.long v6), none, none], [.long (Int64.ofNat 10), .long (v3 / v6)], h, 0, 0)) rfl (Nat.le_of_ble_eq_true rfl) (Nat.le_of_ble_eq_true rfl) ?_
        refine ar_lrem ok_An_putNumber rfl (by decide +kernel) (w := ((v3 / v6) - (v3 / v6) / (Int64.ofNat 10) * (Int64.ofNat 10))) rfl (pc' := 40) rfl (Nat.le_of_ble_eq_true rfl) (Nat.le_of_ble_eq_true rfl) ?_
        refine am_steps ok_An_putNumber 4 (x' := (if ¬ (v5 : Int32) = 0 then 60 else 48, [some (.ref 7), none, none, some (.long v3), none, some (.int v5), some (.long v6), none, some (.int (Int64.toInt32 ((v3 / v6) - (v3 / v6) / (Int64.ofNat 10) * (Int64.ofNat 10))))], [], h, 0, 0)) rfl (Nat.le_of_ble_eq_true rfl) (Nat.le_of_ble_eq_true rfl) ?_
        obtain ⟨u11, hA13, hB14⟩ := Option.bind_eq_some_iff.mp hd; clear hd
        have K12 : am_S am_Pr none 1 30 0 0 104 (65, [some (.ref 7), none, none, some (.long v3), none, none, some (.long v6), none, some (.int (Int64.toInt32 ((v3 / v6) - (v3 / v6) / (Int64.ofNat 10) * (Int64.ofNat 10))))], [.int u11], h, 0, 0) Q := by
          have hd := hB14
          refine am_steps ok_An_putNumber 3 (x' := (if (u11 : Int32) = 0 then 81 else 72, [some (.ref 7), none, none, some (.long v3), none, some (.int u11), some (.long v6), none, some (.int (Int64.toInt32 ((v3 / v6) - (v3 / v6) / (Int64.ofNat 10) * (Int64.ofNat 10))))], [], h, 0, 0)) rfl (Nat.le_of_ble_eq_true rfl) (Nat.le_of_ble_eq_true rfl) ?_
          obtain ⟨u15, hA17, hB18⟩ := Option.bind_eq_some_iff.mp hd; clear hd
          have K16 : ∀ h' : am_H, RH u15 h' → hF h0 h' → hE s.1 u15.1 → am_S am_Pr none 1 30 0 0 104 (81, [some (.ref 7), none, none, some (.long v3), none, some (.int u11), some (.long v6), none, none], [], h', 0, 0) Q := by
            have hd := hB18
            intro h19 hR20 f21 e22
            refine am_steps ok_An_putNumber 2 (x' := (86, [some (.ref 7), none, none, some (.long v3), none, some (.int u11), some (.long v6), none, none], [.long (Int64.ofNat 10), .long v6], h19, 0, 0)) rfl (Nat.le_of_ble_eq_true rfl) (Nat.le_of_ble_eq_true rfl) ?_
            refine ar_ldiv ok_An_putNumber rfl (by decide +kernel) (w := (v6 / (Int64.ofNat 10))) rfl (pc' := 87) rfl (Nat.le_of_ble_eq_true rfl) (Nat.le_of_ble_eq_true rfl) ?_
            refine am_steps ok_An_putNumber 2 (x' := (25, [some (.ref 7), none, none, some (.long v3), none, some (.int u11), some (.long (v6 / (Int64.ofNat 10))), none, none], [], h19, 0, 0)) rfl (Nat.le_of_ble_eq_true rfl) (Nat.le_of_ble_eq_true rfl) ?_
            exact ih v3 u11 (v6 / (Int64.ofNat 10)) u15 h19 hR20 f21 (he.tr e22)  q hd kk
          clear hB18; have hd := hA17; clear hA17
          refine am_if (fun hc23 => ?_) (fun hc23 => ?_)
          · rw [if_pos hc23] at hd
            refine am_drop 8 ?_
            cases hd; exact K16 h hR f hE.rf
          · rw [if_neg hc23] at hd
            refine am_steps ok_An_putNumber 4 (x' := (78, [some (.ref 7), none, none, some (.long v3), none, some (.int u11), some (.long v6), none, some (.int (Int64.toInt32 ((v3 / v6) - (v3 / v6) / (Int64.ofNat 10) * (Int64.ofNat 10))))], [.int (48 + (Int64.toInt32 ((v3 / v6) - (v3 / v6) / (Int64.ofNat 10) * (Int64.ofNat 10)))), .ref 7], h, 0, 0)) rfl (Nat.le_of_ble_eq_true rfl) (Nat.le_of_ble_eq_true rfl) ?_
            obtain ⟨q24, hq25, hd26⟩ := Option.bind_eq_some_iff.mp hd; clear hd; have hd := hd26; clear hd26
            refine ar_cv ok_An_putNumber hk_An_put rfl rfl (As := [.int (48 + (Int64.toInt32 ((v3 / v6) - (v3 / v6) / (Int64.ofNat 10) * (Int64.ofNat 10))))]) (ad := 7) (rest := []) rfl rfl (hR.ob (hs_k hR (a := 7) rfl) (Nat.le_of_ble_eq_true rfl)) (Nat.le_of_ble_eq_true rfl) (c_An_put (48 + (Int64.toInt32 ((v3 / v6) - (v3 / v6) / (Int64.ofNat 10) * (Int64.ofNat 10)))) s h hR  q24 hq25) (Nat.le_of_ble_eq_true rfl) (Nat.le_of_ble_eq_true rfl) (Nat.le_of_ble_eq_true rfl) (Nat.le_of_ble_eq_true rfl) (pc' := 81) rfl (fun r27 h29 z28 => ?_)
            obtain ⟨rfl, hR31, g32, e33⟩ := z28
            have f34 := hF.tr f g32
            show am_S _ _ _ _ _ _ _ (81, [some (.ref 7), none, none, some (.long v3), none, some (.int u11), some (.long v6), none, some (.int (Int64.toInt32 ((v3 / v6) - (v3 / v6) / (Int64.ofNat 10) * (Int64.ofNat 10))))], [], h29, 0, 0) _
            refine am_drop 8 ?_
            cases hd; exact K16 h29 hR31 f34 e33
        clear hB14; have hd := hA13; clear hA13
        refine am_if (fun hc35 => ?_) (fun hc35 => ?_)
        · rw [if_pos hc35] at hd
          refine am_steps ok_An_putNumber 2 (x' := (65, [some (.ref 7), none, none, some (.long v3), none, some (.int v5), some (.long v6), none, some (.int (Int64.toInt32 ((v3 / v6) - (v3 / v6) / (Int64.ofNat 10) * (Int64.ofNat 10))))], [.int 1], h, 0, 0)) rfl (Nat.le_of_ble_eq_true rfl) (Nat.le_of_ble_eq_true rfl) ?_
          refine am_drop 5 ?_
          cases hd; exact K12 
        · rw [if_neg hc35] at hd
          refine am_steps ok_An_putNumber 2 (x' := (if ¬ ((Int64.toInt32 ((v3 / v6) - (v3 / v6) / (Int64.ofNat 10) * (Int64.ofNat 10))) : Int32) = 0 then 60 else 53, [some (.ref 7), none, none, some (.long v3), none, some (.int v5), some (.long v6), none, some (.int (Int64.toInt32 ((v3 / v6) - (v3 / v6) / (Int64.ofNat 10) * (Int64.ofNat 10))))], [], h, 0, 0)) rfl (Nat.le_of_ble_eq_true rfl) (Nat.le_of_ble_eq_true rfl) ?_
          refine am_if (fun hc36 => ?_) (fun hc36 => ?_)
          · rw [if_pos hc36] at hd
            refine am_steps ok_An_putNumber 2 (x' := (65, [some (.ref 7), none, none, some (.long v3), none, some (.int v5), some (.long v6), none, some (.int (Int64.toInt32 ((v3 / v6) - (v3 / v6) / (Int64.ofNat 10) * (Int64.ofNat 10))))], [.int 1], h, 0, 0)) rfl (Nat.le_of_ble_eq_true rfl) (Nat.le_of_ble_eq_true rfl) ?_
            refine am_drop 5 ?_
            cases hd; exact K12 
          · rw [if_neg hc36] at hd
            refine am_steps ok_An_putNumber 4 (x' := (if ¬ ((lg_cmp v6 1) : Int32) = 0 then 64 else 60, [some (.ref 7), none, none, some (.long v3), none, some (.int v5), some (.long v6), none, some (.int (Int64.toInt32 ((v3 / v6) - (v3 / v6) / (Int64.ofNat 10) * (Int64.ofNat 10))))], [], h, 0, 0)) rfl (Nat.le_of_ble_eq_true rfl) (Nat.le_of_ble_eq_true rfl) ?_
            refine am_if (fun hc37 => ?_) (fun hc37 => ?_)
            · rw [if_pos hc37] at hd
              refine am_steps ok_An_putNumber 1 (x' := (65, [some (.ref 7), none, none, some (.long v3), none, some (.int v5), some (.long v6), none, some (.int (Int64.toInt32 ((v3 / v6) - (v3 / v6) / (Int64.ofNat 10) * (Int64.ofNat 10))))], [.int 0], h, 0, 0)) rfl (Nat.le_of_ble_eq_true rfl) (Nat.le_of_ble_eq_true rfl) ?_
              refine am_drop 5 ?_
              cases hd; exact K12 
            · rw [if_neg hc37] at hd
              refine am_steps ok_An_putNumber 2 (x' := (65, [some (.ref 7), none, none, some (.long v3), none, some (.int v5), some (.long v6), none, some (.int (Int64.toInt32 ((v3 / v6) - (v3 / v6) / (Int64.ofNat 10) * (Int64.ofNat 10))))], [.int 1], h, 0, 0)) rfl (Nat.le_of_ble_eq_true rfl) (Nat.le_of_ble_eq_true rfl) ?_
              refine am_drop 5 ?_
              cases hd; exact K12 
def h_An_putNumber (a : Int64) (S : hS) : Option (hS) := (if (0 : Int32) ≤ (lg_cmp a 0) then (some S) else ((h_An_put 45 S).bind fun q46 => (some q46))).bind fun (u1 : hS) => ((hl_An_putNumber_25 100000 (if 0 < a then a else -a) 0 (Int64.ofNat 1000000000000000000) u1).bind fun q38 => (some q38))
set_option maxHeartbeats 4000000 in
set_option maxRecDepth 100000 in
theorem c_An_putNumber (a : Int64) (S : hS) (h0 : am_H) (hR : RH S h0)  (q : hS) (hd : h_An_putNumber a S = some q) : am_Me am_Pr none 1 30 0 0 104 [.ref 7, .long a] h0 (hQv q S.1 h0) := by
  refine am_enter (d := hd_An_putNumber) rfl (by decide +kernel) (Nat.le_of_ble_eq_true rfl) ?_
  show am_S _ _ _ _ _ _ _ (0, [some (.ref 7), some (.long a), none, none, none, none, none, none, none], [], h0, 0, 0) _
  unfold h_An_putNumber at hd
  refine am_steps ok_An_putNumber 4 (x' := (if (0 : Int32) ≤ (lg_cmp a 0) then 12 else 6, [some (.ref 7), some (.long a), none, none, none, none, none, none, none], [], h0, 0, 0)) rfl (Nat.le_of_ble_eq_true rfl) (Nat.le_of_ble_eq_true rfl) ?_
  obtain ⟨u1, hA3, hB4⟩ := Option.bind_eq_some_iff.mp hd; clear hd
  have K2 : ∀ h' : am_H, RH u1 h' → hF h0 h' → hE S.1 u1.1 → am_S am_Pr none 1 30 0 0 104 (12, [some (.ref 7), some (.long a), none, none, none, none, none, none, none], [], h', 0, 0) (hQv q S.1 h0) := by
    have hd := hB4
    intro h5 hR6 f7 e8
    refine am_steps ok_An_putNumber 1 (x' := (13, [some (.ref 7), some (.long a), none, none, none, none, none, none, none], [.long a], h5, 0, 0)) rfl (Nat.le_of_ble_eq_true rfl) (Nat.le_of_ble_eq_true rfl) ?_
    refine ar_absL ok_An_putNumber rfl (w := (if 0 < a then a else -a)) rfl (Nat.le_of_ble_eq_true rfl) (Nat.le_of_ble_eq_true rfl) (Nat.le_of_ble_eq_true rfl) (Nat.le_of_ble_eq_true rfl) (pc' := 16) rfl ?_
    refine am_steps ok_An_putNumber 5 (x' := (25, [some (.ref 7), some (.long a), none, some (.long (if 0 < a then a else -a)), none, some (.int 0), some (.long (Int64.ofNat 1000000000000000000)), none, none], [], h5, 0, 0)) rfl (Nat.le_of_ble_eq_true rfl) (Nat.le_of_ble_eq_true rfl) ?_
    refine am_drop 1 ?_
    obtain ⟨q38, hq39, hd40⟩ := Option.bind_eq_some_iff.mp hd; clear hd; have hd := hd40; clear hd40
    refine Lc_An_putNumber_25 u1.1 h0 100000 (if 0 < a then a else -a) 0 (Int64.ofNat 1000000000000000000) u1 h5 hR6 f7 hE.rf  q38 hq39 (fun h41 hR42 f43 e44 => ?_)
    show am_S _ _ _ _ _ _ _ (92, [some (.ref 7), none, none, some (.long (if 0 < a then a else -a)), none, none, none, none, none], [], h41, 0, 0) _
    cases hd; exact am_ret ok_An_putNumber rfl (Nat.le_of_ble_eq_true rfl) (Nat.le_of_ble_eq_true rfl) ⟨rfl, hR42, f43, ((hE.rf.tr e8).tr e44)⟩
  clear hB4; have hd := hA3; clear hA3
  refine am_if (fun hc45 => ?_) (fun hc45 => ?_)
  · rw [if_pos hc45] at hd
    cases hd; exact K2 h0 hR hF.rf hE.rf
  · rw [if_neg hc45] at hd
    refine am_steps ok_An_putNumber 2 (x' := (9, [some (.ref 7), some (.long a), none, none, none, none, none, none, none], [.int 45, .ref 7], h0, 0, 0)) rfl (Nat.le_of_ble_eq_true rfl) (Nat.le_of_ble_eq_true rfl) ?_
    obtain ⟨q46, hq47, hd48⟩ := Option.bind_eq_some_iff.mp hd; clear hd; have hd := hd48; clear hd48
    refine ar_cv ok_An_putNumber hk_An_put rfl rfl (As := [.int 45]) (ad := 7) (rest := []) rfl rfl (hR.ob (hs_k hR (a := 7) rfl) (Nat.le_of_ble_eq_true rfl)) (Nat.le_of_ble_eq_true rfl) (c_An_put 45 S h0 hR  q46 hq47) (Nat.le_of_ble_eq_true rfl) (Nat.le_of_ble_eq_true rfl) (Nat.le_of_ble_eq_true rfl) (Nat.le_of_ble_eq_true rfl) (pc' := 12) rfl (fun r49 h51 z50 => ?_)
    obtain ⟨rfl, hR53, g54, e55⟩ := z50
    have f56 := hF.tr hF.rf g54
    show am_S _ _ _ _ _ _ _ (12, [some (.ref 7), some (.long a), none, none, none, none, none, none, none], [], h51, 0, 0) _
    cases hd; exact K2 h51 hR53 f56 e55
def h_Bo_putFigure (a : Int64) (S : hS) : Option (hS) := (h_An_put 32 S).bind fun q1 => ((h_An_putNumber a q1).bind fun q12 => (some q12))
set_option maxHeartbeats 4000000 in
set_option maxRecDepth 100000 in
theorem c_Bo_putFigure (a : Int64) (S : hS) (h0 : am_H) (hR : RH S h0)  (q : hS) (hd : h_Bo_putFigure a S = some q) : am_Me am_Pr none 2 58 0 0 131 [.long a, .ref 7] h0 (hQv q S.1 h0) := by
  refine am_enter (d := hd_Bo_putFigure) rfl (by decide +kernel) (Nat.le_of_ble_eq_true rfl) ?_
  show am_S _ _ _ _ _ _ _ (0, [some (.long a), none, some (.ref 7)], [], h0, 0, 0) _
  unfold h_Bo_putFigure at hd
  refine am_steps ok_Bo_putFigure 2 (x' := (3, [some (.long a), none, some (.ref 7)], [.int 32, .ref 7], h0, 0, 0)) rfl (Nat.le_of_ble_eq_true rfl) (Nat.le_of_ble_eq_true rfl) ?_
  obtain ⟨q1, hq2, hd3⟩ := Option.bind_eq_some_iff.mp hd; clear hd; have hd := hd3; clear hd3
  refine ar_cv ok_Bo_putFigure hk_An_put rfl rfl (As := [.int 32]) (ad := 7) (rest := []) rfl rfl (hR.ob (hs_k hR (a := 7) rfl) (Nat.le_of_ble_eq_true rfl)) (Nat.le_of_ble_eq_true rfl) (c_An_put 32 S h0 hR  q1 hq2) (Nat.le_of_ble_eq_true rfl) (Nat.le_of_ble_eq_true rfl) (Nat.le_of_ble_eq_true rfl) (Nat.le_of_ble_eq_true rfl) (pc' := 6) rfl (fun r4 h6 z5 => ?_)
  obtain ⟨rfl, hR8, g9, e10⟩ := z5
  have f11 := hF.tr hF.rf g9
  show am_S _ _ _ _ _ _ _ (6, [some (.long a), none, some (.ref 7)], [], h6, 0, 0) _
  refine am_steps ok_Bo_putFigure 2 (x' := (8, [some (.long a), none, some (.ref 7)], [.long a, .ref 7], h6, 0, 0)) rfl (Nat.le_of_ble_eq_true rfl) (Nat.le_of_ble_eq_true rfl) ?_
  obtain ⟨q12, hq13, hd14⟩ := Option.bind_eq_some_iff.mp hd; clear hd; have hd := hd14; clear hd14
  refine ar_cv ok_Bo_putFigure hk_An_putNumber rfl rfl (As := [.long a]) (ad := 7) (rest := []) rfl rfl (hR8.ob (hs_k hR8 (a := 7) rfl) (Nat.le_of_ble_eq_true rfl)) (Nat.le_of_ble_eq_true rfl) (c_An_putNumber a q1 h6 hR8  q12 hq13) (Nat.le_of_ble_eq_true rfl) (Nat.le_of_ble_eq_true rfl) (Nat.le_of_ble_eq_true rfl) (Nat.le_of_ble_eq_true rfl) (pc' := 11) rfl (fun r15 h17 z16 => ?_)
  obtain ⟨rfl, hR19, g20, e21⟩ := z16
  have f22 := hF.tr f11 g20
  show am_S _ _ _ _ _ _ _ (11, [some (.long a), none, some (.ref 7)], [], h17, 0, 0) _
  cases hd; exact am_ret ok_Bo_putFigure rfl (Nat.le_of_ble_eq_true rfl) (Nat.le_of_ble_eq_true rfl) ⟨rfl, hR19, f22, ((hE.rf.tr e10).tr e21)⟩
def hl_Bo_putStatement_2 : Nat → Int32 → Int32 → hS → Option (hS)
  | 0, _, _, _ => none
  | fu + 1, v1, v3, s => if ((s.2.1 403 10) : Int32) ≤ v3 then (some s) else ((am_ix v1 256).bind fun j2 => (((s.2.2.2.2.2.2 11 j2)).bind fun b5 => (((s.2.2.2.1 902 b5)).bind fun b9 => ((am_ix v3 (hln s.1 b9)).bind fun j13 => ((if (s.2.2.2.2.2.2 b9 j13) = none then (some s) else (((s.2.2.2.2.2.2 b9 j13)).bind fun b25 => (if ¬ ((lg_cmp (s.2.2.1 1004 b25) 0) : Int32) = 0 then ((am_ix v3 64).bind fun j30 => (((s.2.2.2.2.2.2 12 j30)).bind fun b33 => ((h_An_putCode (Int32.toInt64 (s.2.1 300 b33)) 3 s).bind fun q37 => ((h_Bo_putFigure (q37.2.2.1 1004 b25) q37).bind fun q48 => ((h_Bo_putFigure (q48.2.2.1 1005 b25) q48).bind fun q59 => ((h_Bo_putFigure (q59.2.2.1 1006 b25) q59).bind fun q70 => ((h_Bo_putFigure (q70.2.2.1 1001 b25) q70).bind fun q81 => ((h_Bo_putFigure (Int32.toInt64 (q81.2.1 1007 b25)) q81).bind fun q92 => ((h_An_put 10 q92).bind fun q103 => (some q103)))))))))) else (if ((s.2.1 1007 b25) : Int32) = 0 then (some s) else ((am_ix v3 64).bind fun j115 => (((s.2.2.2.2.2.2 12 j115)).bind fun b118 => ((h_An_putCode (Int32.toInt64 (s.2.1 300 b118)) 3 s).bind fun q122 => ((h_Bo_putFigure (q122.2.2.1 1004 b25) q122).bind fun q133 => ((h_Bo_putFigure (q133.2.2.1 1005 b25) q133).bind fun q144 => ((h_Bo_putFigure (q144.2.2.1 1006 b25) q144).bind fun q155 => ((h_Bo_putFigure (q155.2.2.1 1001 b25) q155).bind fun q166 => ((h_Bo_putFigure (Int32.toInt64 (q166.2.1 1007 b25)) q166).bind fun q177 => ((h_An_put 10 q177).bind fun q188 => (some q188)))))))))))))).bind fun (u16 : hS) => (hl_Bo_putStatement_2 fu v1 (v3 + 1) u16))))))
set_option maxHeartbeats 4000000 in
set_option maxRecDepth 100000 in
theorem Lc_Bo_putStatement_2 {Q : Option Value → am_H → Prop} (sh0 : List (Nat × Nat)) (h0 : am_H) : ∀ (fu : Nat) (v1 : Int32) (v3 : Int32) (s : hS) (h : am_H), RH s h → hF h0 h → hE sh0 s.1 → ∀ q : hS, hl_Bo_putStatement_2 fu v1 v3 s = some q → (∀ h' : am_H, RH q h' → hF h0 h' → hE sh0 q.1 → am_S am_Pr none 3 80 0 0 130 (119, [some (.ref 10), some (.int v1), some (.ref 7), none, none], [], h', 0, 0) Q) → am_S am_Pr none 3 80 0 0 130 (2, [some (.ref 10), some (.int v1), some (.ref 7), some (.int v3), none], [], h, 0, 0) Q := by
  intro fu
  induction fu with
  | zero => intro v1 v3 s h hR f he  q hd; cases hd
  | succ fu ih =>
    intro v1 v3 s h hR f he  q hd kk
    unfold hl_Bo_putStatement_2 at hd
    refine am_steps ok_Bo_putStatement 2 (x' := (4, [some (.ref 10), some (.int v1), some (.ref 7), some (.int v3), none], [.ref 10, .int v3], h, 0, 0)) rfl (Nat.le_of_ble_eq_true rfl) (Nat.le_of_ble_eq_true rfl) ?_
    refine hr_get ok_Bo_putStatement rfl hR (kd := 4) (hs_k hR (a := 10) rfl) rfl (Nat.le_of_ble_eq_true rfl) (Nat.le_of_ble_eq_true rfl) (v := .int (s.2.1 403 10)) rfl (pc' := 7) rfl (Nat.le_of_ble_eq_true rfl) (Nat.le_of_ble_eq_true rfl) ?_
    refine am_steps ok_Bo_putStatement 1 (x' := (if ((s.2.1 403 10) : Int32) ≤ v3 then 119 else 10, [some (.ref 10), some (.int v1), some (.ref 7), some (.int v3), none], [], h, 0, 0)) rfl (Nat.le_of_ble_eq_true rfl) (Nat.le_of_ble_eq_true rfl) ?_
    refine am_if (fun hc1 => ?_) (fun hc1 => ?_)
    · rw [if_pos hc1] at hd
      refine am_drop 3 ?_
      cases hd; exact kk h hR f he 
    · rw [if_neg hc1] at hd
      refine am_steps ok_Bo_putStatement 1 (x' := (11, [some (.ref 10), some (.int v1), some (.ref 7), some (.int v3), none], [.ref 10], h, 0, 0)) rfl (Nat.le_of_ble_eq_true rfl) (Nat.le_of_ble_eq_true rfl) ?_
      refine hr_get ok_Bo_putStatement rfl hR (kd := 4) (hs_k hR (a := 10) rfl) rfl (Nat.le_of_ble_eq_true rfl) (Nat.le_of_ble_eq_true rfl) (v := .ref 11) (congrArg va_rf (hR.2.2.2.2.1 (400, 10, 11) (by decide))) (pc' := 14) rfl (Nat.le_of_ble_eq_true rfl) (Nat.le_of_ble_eq_true rfl) ?_
      refine am_steps ok_Bo_putStatement 1 (x' := (15, [some (.ref 10), some (.int v1), some (.ref 7), some (.int v3), none], [.int v1, .ref 11], h, 0, 0)) rfl (Nat.le_of_ble_eq_true rfl) (Nat.le_of_ble_eq_true rfl) ?_
      obtain ⟨j2, hx3, hd4⟩ := Option.bind_eq_some_iff.mp hd; clear hd; have hd := hd4; clear hd4
      refine hr_aald ok_Bo_putStatement rfl hR (kd := 24) (hs_k hR (a := 11) rfl) (by decide) (hs_ln hR rfl) hx3 (pc' := 16) rfl (Nat.le_of_ble_eq_true rfl) (Nat.le_of_ble_eq_true rfl) ?_
      obtain ⟨b5, hb6, hd7⟩ := Option.bind_eq_some_iff.mp hd; clear hd; have hd := hd7; clear hd7
      have hk8 := (fun b hb => hR.2.2.2.1 _ _ (hK.ln (hs_k hR (a := 11) rfl)) _ b hb) b5 hb6
      rw [hb6]
      show am_S _ _ _ _ _ _ _ (16, [some (.ref 10), some (.int v1), some (.ref 7), some (.int v3), none], [.ref b5], h, 0, 0) _
      refine hr_get ok_Bo_putStatement rfl hR (kd := 9) hk8 rfl (Nat.le_of_ble_eq_true rfl) (Nat.le_of_ble_eq_true rfl) (v := va_rf (s.2.2.2.1 902 b5)) rfl (pc' := 19) rfl (Nat.le_of_ble_eq_true rfl) (Nat.le_of_ble_eq_true rfl) ?_
      refine am_steps ok_Bo_putStatement 1 (x' := (20, [some (.ref 10), some (.int v1), some (.ref 7), some (.int v3), none], [.int v3, va_rf (s.2.2.2.1 902 b5)], h, 0, 0)) rfl (Nat.le_of_ble_eq_true rfl) (Nat.le_of_ble_eq_true rfl) ?_
      obtain ⟨b9, hb10, hd11⟩ := Option.bind_eq_some_iff.mp hd; clear hd; have hd := hd11; clear hd11
      have hk12 := (fun b hb => hR.2.2.1 902 _ b hb) b9 hb10
      rw [hb10]
      show am_S _ _ _ _ _ _ _ (20, [some (.ref 10), some (.int v1), some (.ref 7), some (.int v3), none], [.int v3, .ref b9], h, 0, 0) _
      obtain ⟨j13, hx14, hd15⟩ := Option.bind_eq_some_iff.mp hd; clear hd; have hd := hd15; clear hd15
      refine hr_aald ok_Bo_putStatement rfl hR (kd := 26) hk12 (by decide) rfl hx14 (pc' := 21) rfl (Nat.le_of_ble_eq_true rfl) (Nat.le_of_ble_eq_true rfl) ?_
      refine hr_astore ok_Bo_putStatement rfl (Nat.le_of_ble_eq_true rfl) (lo' := [some (.ref 10), some (.int v1), some (.ref 7), some (.int v3), some (va_rf (s.2.2.2.2.2.2 b9 j13))]) rfl (pc' := 23) rfl (Nat.le_of_ble_eq_true rfl) (Nat.le_of_ble_eq_true rfl) ?_
      refine hr_aload ok_Bo_putStatement rfl rfl (pc' := 25) rfl (Nat.le_of_ble_eq_true rfl) (Nat.le_of_ble_eq_true rfl) ?_
      refine hr_ifnull ok_Bo_putStatement rfl (pc' := 28) rfl (Nat.le_of_ble_eq_true rfl) (Nat.le_of_ble_eq_true rfl) ?_
      obtain ⟨u16, hA18, hB19⟩ := Option.bind_eq_some_iff.mp hd; clear hd
      have K17 : ∀ h' : am_H, RH u16 h' → hF h0 h' → hE s.1 u16.1 → am_S am_Pr none 3 80 0 0 130 (113, [some (.ref 10), some (.int v1), some (.ref 7), some (.int v3), none], [], h', 0, 0) Q := by
        have hd := hB19
        intro h20 hR21 f22 e23
        refine am_steps ok_Bo_putStatement 2 (x' := (2, [some (.ref 10), some (.int v1), some (.ref 7), some (.int (v3 + 1)), none], [], h20, 0, 0)) rfl (Nat.le_of_ble_eq_true rfl) (Nat.le_of_ble_eq_true rfl) ?_
        exact ih v1 (v3 + 1) u16 h20 hR21 f22 (he.tr e23)  q hd kk
      clear hB19; have hd := hA18; clear hA18
      refine am_if (fun hc24 => ?_) (fun hc24 => ?_)
      · rw [if_pos hc24] at hd
        refine am_drop 4 ?_
        cases hd; exact K17 h hR f hE.rf
      · rw [if_neg hc24] at hd
        obtain ⟨b25, hb26, hd27⟩ := Option.bind_eq_some_iff.mp hd; clear hd; have hd := hd27; clear hd27
        have hk28 := (fun b hb => hR.2.2.2.1 _ _ (hK.ln hk12) _ b hb) b25 hb26
        rw [hb26]
        show am_S _ _ _ _ _ _ _ (28, [some (.ref 10), some (.int v1), some (.ref 7), some (.int v3), some (.ref b25)], [], h, 0, 0) _
        refine am_steps ok_Bo_putStatement 1 (x' := (30, [some (.ref 10), some (.int v1), some (.ref 7), some (.int v3), some (.ref b25)], [.ref b25], h, 0, 0)) rfl (Nat.le_of_ble_eq_true rfl) (Nat.le_of_ble_eq_true rfl) ?_
        refine hr_get ok_Bo_putStatement rfl hR (kd := 10) hk28 rfl (Nat.le_of_ble_eq_true rfl) (Nat.le_of_ble_eq_true rfl) (v := .long (s.2.2.1 1004 b25)) rfl (pc' := 33) rfl (Nat.le_of_ble_eq_true rfl) (Nat.le_of_ble_eq_true rfl) ?_
        refine am_steps ok_Bo_putStatement 3 (x' := (if ¬ ((lg_cmp (s.2.2.1 1004 b25) 0) : Int32) = 0 then 46 else 38, [some (.ref 10), some (.int v1), some (.ref 7), some (.int v3), some (.ref b25)], [], h, 0, 0)) rfl (Nat.le_of_ble_eq_true rfl) (Nat.le_of_ble_eq_true rfl) ?_
        refine am_if (fun hc29 => ?_) (fun hc29 => ?_)
        · rw [if_pos hc29] at hd
          refine am_steps ok_Bo_putStatement 2 (x' := (48, [some (.ref 10), some (.int v1), some (.ref 7), some (.int v3), some (.ref b25)], [.ref 10, .ref 7], h, 0, 0)) rfl (Nat.le_of_ble_eq_true rfl) (Nat.le_of_ble_eq_true rfl) ?_
          refine hr_get ok_Bo_putStatement rfl hR (kd := 4) (hs_k hR (a := 10) rfl) rfl (Nat.le_of_ble_eq_true rfl) (Nat.le_of_ble_eq_true rfl) (v := .ref 12) (congrArg va_rf (hR.2.2.2.2.1 (402, 10, 12) (by decide))) (pc' := 51) rfl (Nat.le_of_ble_eq_true rfl) (Nat.le_of_ble_eq_true rfl) ?_
          refine am_steps ok_Bo_putStatement 1 (x' := (52, [some (.ref 10), some (.int v1), some (.ref 7), some (.int v3), some (.ref b25)], [.int v3, .ref 12, .ref 7], h, 0, 0)) rfl (Nat.le_of_ble_eq_true rfl) (Nat.le_of_ble_eq_true rfl) ?_
          obtain ⟨j30, hx31, hd32⟩ := Option.bind_eq_some_iff.mp hd; clear hd; have hd := hd32; clear hd32
          refine hr_aald ok_Bo_putStatement rfl hR (kd := 25) (hs_k hR (a := 12) rfl) (by decide) (hs_ln hR rfl) hx31 (pc' := 53) rfl (Nat.le_of_ble_eq_true rfl) (Nat.le_of_ble_eq_true rfl) ?_
          obtain ⟨b33, hb34, hd35⟩ := Option.bind_eq_some_iff.mp hd; clear hd; have hd := hd35; clear hd35
          have hk36 := (fun b hb => hR.2.2.2.1 _ _ (hK.ln (hs_k hR (a := 12) rfl)) _ b hb) b33 hb34
          rw [hb34]
          show am_S _ _ _ _ _ _ _ (53, [some (.ref 10), some (.int v1), some (.ref 7), some (.int v3), some (.ref b25)], [.ref b33, .ref 7], h, 0, 0) _
          refine hr_get ok_Bo_putStatement rfl hR (kd := 3) hk36 rfl (Nat.le_of_ble_eq_true rfl) (Nat.le_of_ble_eq_true rfl) (v := .int (s.2.1 300 b33)) rfl (pc' := 56) rfl (Nat.le_of_ble_eq_true rfl) (Nat.le_of_ble_eq_true rfl) ?_
          refine am_steps ok_Bo_putStatement 2 (x' := (58, [some (.ref 10), some (.int v1), some (.ref 7), some (.int v3), some (.ref b25)], [.int 3, .long (Int32.toInt64 (s.2.1 300 b33)), .ref 7], h, 0, 0)) rfl (Nat.le_of_ble_eq_true rfl) (Nat.le_of_ble_eq_true rfl) ?_
          obtain ⟨q37, hq38, hd39⟩ := Option.bind_eq_some_iff.mp hd; clear hd; have hd := hd39; clear hd39
          refine ar_cv ok_Bo_putStatement hk_An_putCode rfl rfl (As := [.long (Int32.toInt64 (s.2.1 300 b33)), .int 3]) (ad := 7) (rest := []) rfl rfl (hR.ob (hs_k hR (a := 7) rfl) (Nat.le_of_ble_eq_true rfl)) (Nat.le_of_ble_eq_true rfl) (c_An_putCode (Int32.toInt64 (s.2.1 300 b33)) 3 s h hR  q37 hq38) (Nat.le_of_ble_eq_true rfl) (Nat.le_of_ble_eq_true rfl) (Nat.le_of_ble_eq_true rfl) (Nat.le_of_ble_eq_true rfl) (pc' := 61) rfl (fun r40 h42 z41 => ?_)
          obtain ⟨rfl, hR44, g45, e46⟩ := z41
          have f47 := hF.tr f g45
          show am_S _ _ _ _ _ _ _ (61, [some (.ref 10), some (.int v1), some (.ref 7), some (.int v3), some (.ref b25)], [], h42, 0, 0) _
          refine am_steps ok_Bo_putStatement 1 (x' := (63, [some (.ref 10), some (.int v1), some (.ref 7), some (.int v3), some (.ref b25)], [.ref b25], h42, 0, 0)) rfl (Nat.le_of_ble_eq_true rfl) (Nat.le_of_ble_eq_true rfl) ?_
          refine hr_get ok_Bo_putStatement rfl hR44 (kd := 10) (hk28.up e46) rfl (Nat.le_of_ble_eq_true rfl) (Nat.le_of_ble_eq_true rfl) (v := .long (q37.2.2.1 1004 b25)) rfl (pc' := 66) rfl (Nat.le_of_ble_eq_true rfl) (Nat.le_of_ble_eq_true rfl) ?_
          refine am_steps ok_Bo_putStatement 1 (x' := (67, [some (.ref 10), some (.int v1), some (.ref 7), some (.int v3), some (.ref b25)], [.ref 7, .long (q37.2.2.1 1004 b25)], h42, 0, 0)) rfl (Nat.le_of_ble_eq_true rfl) (Nat.le_of_ble_eq_true rfl) ?_
          obtain ⟨q48, hq49, hd50⟩ := Option.bind_eq_some_iff.mp hd; clear hd; have hd := hd50; clear hd50
          refine am_call ok_Bo_putStatement hk_Bo_putFigure rfl (args' := [.long (q37.2.2.1 1004 b25), .ref 7]) (rest := []) rfl (c_Bo_putFigure (q37.2.2.1 1004 b25) q37 h42 hR44  q48 hq49) (Nat.le_of_ble_eq_true rfl) (Nat.le_of_ble_eq_true rfl) (Nat.le_of_ble_eq_true rfl) (Nat.le_of_ble_eq_true rfl) (fun r51 h53 z52 => ?_)
          obtain ⟨rfl, hR55, g56, e57⟩ := z52
          have f58 := hF.tr f47 g56
          show am_S _ _ _ _ _ _ _ (70, [some (.ref 10), some (.int v1), some (.ref 7), some (.int v3), some (.ref b25)], [], h53, 0, 0) _
          refine am_steps ok_Bo_putStatement 1 (x' := (72, [some (.ref 10), some (.int v1), some (.ref 7), some (.int v3), some (.ref b25)], [.ref b25], h53, 0, 0)) rfl (Nat.le_of_ble_eq_true rfl) (Nat.le_of_ble_eq_true rfl) ?_
          refine hr_get ok_Bo_putStatement rfl hR55 (kd := 10) ((hk28.up e46).up e57) rfl (Nat.le_of_ble_eq_true rfl) (Nat.le_of_ble_eq_true rfl) (v := .long (q48.2.2.1 1005 b25)) rfl (pc' := 75) rfl (Nat.le_of_ble_eq_true rfl) (Nat.le_of_ble_eq_true rfl) ?_
          refine am_steps ok_Bo_putStatement 1 (x' := (76, [some (.ref 10), some (.int v1), some (.ref 7), some (.int v3), some (.ref b25)], [.ref 7, .long (q48.2.2.1 1005 b25)], h53, 0, 0)) rfl (Nat.le_of_ble_eq_true rfl) (Nat.le_of_ble_eq_true rfl) ?_
          obtain ⟨q59, hq60, hd61⟩ := Option.bind_eq_some_iff.mp hd; clear hd; have hd := hd61; clear hd61
          refine am_call ok_Bo_putStatement hk_Bo_putFigure rfl (args' := [.long (q48.2.2.1 1005 b25), .ref 7]) (rest := []) rfl (c_Bo_putFigure (q48.2.2.1 1005 b25) q48 h53 hR55  q59 hq60) (Nat.le_of_ble_eq_true rfl) (Nat.le_of_ble_eq_true rfl) (Nat.le_of_ble_eq_true rfl) (Nat.le_of_ble_eq_true rfl) (fun r62 h64 z63 => ?_)
          obtain ⟨rfl, hR66, g67, e68⟩ := z63
          have f69 := hF.tr f58 g67
          show am_S _ _ _ _ _ _ _ (79, [some (.ref 10), some (.int v1), some (.ref 7), some (.int v3), some (.ref b25)], [], h64, 0, 0) _
          refine am_steps ok_Bo_putStatement 1 (x' := (81, [some (.ref 10), some (.int v1), some (.ref 7), some (.int v3), some (.ref b25)], [.ref b25], h64, 0, 0)) rfl (Nat.le_of_ble_eq_true rfl) (Nat.le_of_ble_eq_true rfl) ?_
          refine hr_get ok_Bo_putStatement rfl hR66 (kd := 10) (((hk28.up e46).up e57).up e68) rfl (Nat.le_of_ble_eq_true rfl) (Nat.le_of_ble_eq_true rfl) (v := .long (q59.2.2.1 1006 b25)) rfl (pc' := 84) rfl (Nat.le_of_ble_eq_true rfl) (Nat.le_of_ble_eq_true rfl) ?_
          refine am_steps ok_Bo_putStatement 1 (x' := (85, [some (.ref 10), some (.int v1), some (.ref 7), some (.int v3), some (.ref b25)], [.ref 7, .long (q59.2.2.1 1006 b25)], h64, 0, 0)) rfl (Nat.le_of_ble_eq_true rfl) (Nat.le_of_ble_eq_true rfl) ?_
          obtain ⟨q70, hq71, hd72⟩ := Option.bind_eq_some_iff.mp hd; clear hd; have hd := hd72; clear hd72
          refine am_call ok_Bo_putStatement hk_Bo_putFigure rfl (args' := [.long (q59.2.2.1 1006 b25), .ref 7]) (rest := []) rfl (c_Bo_putFigure (q59.2.2.1 1006 b25) q59 h64 hR66  q70 hq71) (Nat.le_of_ble_eq_true rfl) (Nat.le_of_ble_eq_true rfl) (Nat.le_of_ble_eq_true rfl) (Nat.le_of_ble_eq_true rfl) (fun r73 h75 z74 => ?_)
          obtain ⟨rfl, hR77, g78, e79⟩ := z74
          have f80 := hF.tr f69 g78
          show am_S _ _ _ _ _ _ _ (88, [some (.ref 10), some (.int v1), some (.ref 7), some (.int v3), some (.ref b25)], [], h75, 0, 0) _
          refine am_steps ok_Bo_putStatement 1 (x' := (90, [some (.ref 10), some (.int v1), some (.ref 7), some (.int v3), some (.ref b25)], [.ref b25], h75, 0, 0)) rfl (Nat.le_of_ble_eq_true rfl) (Nat.le_of_ble_eq_true rfl) ?_
          refine hr_get ok_Bo_putStatement rfl hR77 (kd := 10) ((((hk28.up e46).up e57).up e68).up e79) rfl (Nat.le_of_ble_eq_true rfl) (Nat.le_of_ble_eq_true rfl) (v := .long (q70.2.2.1 1001 b25)) rfl (pc' := 93) rfl (Nat.le_of_ble_eq_true rfl) (Nat.le_of_ble_eq_true rfl) ?_
          refine am_steps ok_Bo_putStatement 1 (x' := (94, [some (.ref 10), some (.int v1), some (.ref 7), some (.int v3), some (.ref b25)], [.ref 7, .long (q70.2.2.1 1001 b25)], h75, 0, 0)) rfl (Nat.le_of_ble_eq_true rfl) (Nat.le_of_ble_eq_true rfl) ?_
          obtain ⟨q81, hq82, hd83⟩ := Option.bind_eq_some_iff.mp hd; clear hd; have hd := hd83; clear hd83
          refine am_call ok_Bo_putStatement hk_Bo_putFigure rfl (args' := [.long (q70.2.2.1 1001 b25), .ref 7]) (rest := []) rfl (c_Bo_putFigure (q70.2.2.1 1001 b25) q70 h75 hR77  q81 hq82) (Nat.le_of_ble_eq_true rfl) (Nat.le_of_ble_eq_true rfl) (Nat.le_of_ble_eq_true rfl) (Nat.le_of_ble_eq_true rfl) (fun r84 h86 z85 => ?_)
          obtain ⟨rfl, hR88, g89, e90⟩ := z85
          have f91 := hF.tr f80 g89
          show am_S _ _ _ _ _ _ _ (97, [some (.ref 10), some (.int v1), some (.ref 7), some (.int v3), some (.ref b25)], [], h86, 0, 0) _
          refine am_steps ok_Bo_putStatement 1 (x' := (99, [some (.ref 10), some (.int v1), some (.ref 7), some (.int v3), some (.ref b25)], [.ref b25], h86, 0, 0)) rfl (Nat.le_of_ble_eq_true rfl) (Nat.le_of_ble_eq_true rfl) ?_
          refine hr_get ok_Bo_putStatement rfl hR88 (kd := 10) (((((hk28.up e46).up e57).up e68).up e79).up e90) rfl (Nat.le_of_ble_eq_true rfl) (Nat.le_of_ble_eq_true rfl) (v := .int (q81.2.1 1007 b25)) rfl (pc' := 102) rfl (Nat.le_of_ble_eq_true rfl) (Nat.le_of_ble_eq_true rfl) ?_
          refine am_steps ok_Bo_putStatement 2 (x' := (104, [some (.ref 10), some (.int v1), some (.ref 7), some (.int v3), some (.ref b25)], [.ref 7, .long (Int32.toInt64 (q81.2.1 1007 b25))], h86, 0, 0)) rfl (Nat.le_of_ble_eq_true rfl) (Nat.le_of_ble_eq_true rfl) ?_
          obtain ⟨q92, hq93, hd94⟩ := Option.bind_eq_some_iff.mp hd; clear hd; have hd := hd94; clear hd94
          refine am_call ok_Bo_putStatement hk_Bo_putFigure rfl (args' := [.long (Int32.toInt64 (q81.2.1 1007 b25)), .ref 7]) (rest := []) rfl (c_Bo_putFigure (Int32.toInt64 (q81.2.1 1007 b25)) q81 h86 hR88  q92 hq93) (Nat.le_of_ble_eq_true rfl) (Nat.le_of_ble_eq_true rfl) (Nat.le_of_ble_eq_true rfl) (Nat.le_of_ble_eq_true rfl) (fun r95 h97 z96 => ?_)
          obtain ⟨rfl, hR99, g100, e101⟩ := z96
          have f102 := hF.tr f91 g100
          show am_S _ _ _ _ _ _ _ (107, [some (.ref 10), some (.int v1), some (.ref 7), some (.int v3), some (.ref b25)], [], h97, 0, 0) _
          refine am_steps ok_Bo_putStatement 2 (x' := (110, [some (.ref 10), some (.int v1), some (.ref 7), some (.int v3), some (.ref b25)], [.int 10, .ref 7], h97, 0, 0)) rfl (Nat.le_of_ble_eq_true rfl) (Nat.le_of_ble_eq_true rfl) ?_
          obtain ⟨q103, hq104, hd105⟩ := Option.bind_eq_some_iff.mp hd; clear hd; have hd := hd105; clear hd105
          refine ar_cv ok_Bo_putStatement hk_An_put rfl rfl (As := [.int 10]) (ad := 7) (rest := []) rfl rfl (hR99.ob (hs_k hR99 (a := 7) rfl) (Nat.le_of_ble_eq_true rfl)) (Nat.le_of_ble_eq_true rfl) (c_An_put 10 q92 h97 hR99  q103 hq104) (Nat.le_of_ble_eq_true rfl) (Nat.le_of_ble_eq_true rfl) (Nat.le_of_ble_eq_true rfl) (Nat.le_of_ble_eq_true rfl) (pc' := 113) rfl (fun r106 h108 z107 => ?_)
          obtain ⟨rfl, hR110, g111, e112⟩ := z107
          have f113 := hF.tr f102 g111
          show am_S _ _ _ _ _ _ _ (113, [some (.ref 10), some (.int v1), some (.ref 7), some (.int v3), some (.ref b25)], [], h108, 0, 0) _
          refine am_drop 4 ?_
          cases hd; exact K17 h108 hR110 f113 ((((((e46.tr e57).tr e68).tr e79).tr e90).tr e101).tr e112)
        · rw [if_neg hc29] at hd
          refine am_steps ok_Bo_putStatement 1 (x' := (40, [some (.ref 10), some (.int v1), some (.ref 7), some (.int v3), some (.ref b25)], [.ref b25], h, 0, 0)) rfl (Nat.le_of_ble_eq_true rfl) (Nat.le_of_ble_eq_true rfl) ?_
          refine hr_get ok_Bo_putStatement rfl hR (kd := 10) hk28 rfl (Nat.le_of_ble_eq_true rfl) (Nat.le_of_ble_eq_true rfl) (v := .int (s.2.1 1007 b25)) rfl (pc' := 43) rfl (Nat.le_of_ble_eq_true rfl) (Nat.le_of_ble_eq_true rfl) ?_
          refine am_steps ok_Bo_putStatement 1 (x' := (if ((s.2.1 1007 b25) : Int32) = 0 then 113 else 46, [some (.ref 10), some (.int v1), some (.ref 7), some (.int v3), some (.ref b25)], [], h, 0, 0)) rfl (Nat.le_of_ble_eq_true rfl) (Nat.le_of_ble_eq_true rfl) ?_
          refine am_if (fun hc114 => ?_) (fun hc114 => ?_)
          · rw [if_pos hc114] at hd
            refine am_drop 4 ?_
            cases hd; exact K17 h hR f hE.rf
          · rw [if_neg hc114] at hd
            refine am_steps ok_Bo_putStatement 2 (x' := (48, [some (.ref 10), some (.int v1), some (.ref 7), some (.int v3), some (.ref b25)], [.ref 10, .ref 7], h, 0, 0)) rfl (Nat.le_of_ble_eq_true rfl) (Nat.le_of_ble_eq_true rfl) ?_
            refine hr_get ok_Bo_putStatement rfl hR (kd := 4) (hs_k hR (a := 10) rfl) rfl (Nat.le_of_ble_eq_true rfl) (Nat.le_of_ble_eq_true rfl) (v := .ref 12) (congrArg va_rf (hR.2.2.2.2.1 (402, 10, 12) (by decide))) (pc' := 51) rfl (Nat.le_of_ble_eq_true rfl) (Nat.le_of_ble_eq_true rfl) ?_
            refine am_steps ok_Bo_putStatement 1 (x' := (52, [some (.ref 10), some (.int v1), some (.ref 7), some (.int v3), some (.ref b25)], [.int v3, .ref 12, .ref 7], h, 0, 0)) rfl (Nat.le_of_ble_eq_true rfl) (Nat.le_of_ble_eq_true rfl) ?_
            obtain ⟨j115, hx116, hd117⟩ := Option.bind_eq_some_iff.mp hd; clear hd; have hd := hd117; clear hd117
            refine hr_aald ok_Bo_putStatement rfl hR (kd := 25) (hs_k hR (a := 12) rfl) (by decide) (hs_ln hR rfl) hx116 (pc' := 53) rfl (Nat.le_of_ble_eq_true rfl) (Nat.le_of_ble_eq_true rfl) ?_
            obtain ⟨b118, hb119, hd120⟩ := Option.bind_eq_some_iff.mp hd; clear hd; have hd := hd120; clear hd120
            have hk121 := (fun b hb => hR.2.2.2.1 _ _ (hK.ln (hs_k hR (a := 12) rfl)) _ b hb) b118 hb119
            rw [hb119]
            show am_S _ _ _ _ _ _ _ (53, [some (.ref 10), some (.int v1), some (.ref 7), some (.int v3), some (.ref b25)], [.ref b118, .ref 7], h, 0, 0) _
            refine hr_get ok_Bo_putStatement rfl hR (kd := 3) hk121 rfl (Nat.le_of_ble_eq_true rfl) (Nat.le_of_ble_eq_true rfl) (v := .int (s.2.1 300 b118)) rfl (pc' := 56) rfl (Nat.le_of_ble_eq_true rfl) (Nat.le_of_ble_eq_true rfl) ?_
            refine am_steps ok_Bo_putStatement 2 (x' := (58, [some (.ref 10), some (.int v1), some (.ref 7), some (.int v3), some (.ref b25)], [.int 3, .long (Int32.toInt64 (s.2.1 300 b118)), .ref 7], h, 0, 0)) rfl (Nat.le_of_ble_eq_true rfl) (Nat.le_of_ble_eq_true rfl) ?_
            obtain ⟨q122, hq123, hd124⟩ := Option.bind_eq_some_iff.mp hd; clear hd; have hd := hd124; clear hd124
            refine ar_cv ok_Bo_putStatement hk_An_putCode rfl rfl (As := [.long (Int32.toInt64 (s.2.1 300 b118)), .int 3]) (ad := 7) (rest := []) rfl rfl (hR.ob (hs_k hR (a := 7) rfl) (Nat.le_of_ble_eq_true rfl)) (Nat.le_of_ble_eq_true rfl) (c_An_putCode (Int32.toInt64 (s.2.1 300 b118)) 3 s h hR  q122 hq123) (Nat.le_of_ble_eq_true rfl) (Nat.le_of_ble_eq_true rfl) (Nat.le_of_ble_eq_true rfl) (Nat.le_of_ble_eq_true rfl) (pc' := 61) rfl (fun r125 h127 z126 => ?_)
            obtain ⟨rfl, hR129, g130, e131⟩ := z126
            have f132 := hF.tr f g130
            show am_S _ _ _ _ _ _ _ (61, [some (.ref 10), some (.int v1), some (.ref 7), some (.int v3), some (.ref b25)], [], h127, 0, 0) _
            refine am_steps ok_Bo_putStatement 1 (x' := (63, [some (.ref 10), some (.int v1), some (.ref 7), some (.int v3), some (.ref b25)], [.ref b25], h127, 0, 0)) rfl (Nat.le_of_ble_eq_true rfl) (Nat.le_of_ble_eq_true rfl) ?_
            refine hr_get ok_Bo_putStatement rfl hR129 (kd := 10) (hk28.up e131) rfl (Nat.le_of_ble_eq_true rfl) (Nat.le_of_ble_eq_true rfl) (v := .long (q122.2.2.1 1004 b25)) rfl (pc' := 66) rfl (Nat.le_of_ble_eq_true rfl) (Nat.le_of_ble_eq_true rfl) ?_
            refine am_steps ok_Bo_putStatement 1 (x' := (67, [some (.ref 10), some (.int v1), some (.ref 7), some (.int v3), some (.ref b25)], [.ref 7, .long (q122.2.2.1 1004 b25)], h127, 0, 0)) rfl (Nat.le_of_ble_eq_true rfl) (Nat.le_of_ble_eq_true rfl) ?_
            obtain ⟨q133, hq134, hd135⟩ := Option.bind_eq_some_iff.mp hd; clear hd; have hd := hd135; clear hd135
            refine am_call ok_Bo_putStatement hk_Bo_putFigure rfl (args' := [.long (q122.2.2.1 1004 b25), .ref 7]) (rest := []) rfl (c_Bo_putFigure (q122.2.2.1 1004 b25) q122 h127 hR129  q133 hq134) (Nat.le_of_ble_eq_true rfl) (Nat.le_of_ble_eq_true rfl) (Nat.le_of_ble_eq_true rfl) (Nat.le_of_ble_eq_true rfl) (fun r136 h138 z137 => ?_)
            obtain ⟨rfl, hR140, g141, e142⟩ := z137
            have f143 := hF.tr f132 g141
            show am_S _ _ _ _ _ _ _ (70, [some (.ref 10), some (.int v1), some (.ref 7), some (.int v3), some (.ref b25)], [], h138, 0, 0) _
            refine am_steps ok_Bo_putStatement 1 (x' := (72, [some (.ref 10), some (.int v1), some (.ref 7), some (.int v3), some (.ref b25)], [.ref b25], h138, 0, 0)) rfl (Nat.le_of_ble_eq_true rfl) (Nat.le_of_ble_eq_true rfl) ?_
            refine hr_get ok_Bo_putStatement rfl hR140 (kd := 10) ((hk28.up e131).up e142) rfl (Nat.le_of_ble_eq_true rfl) (Nat.le_of_ble_eq_true rfl) (v := .long (q133.2.2.1 1005 b25)) rfl (pc' := 75) rfl (Nat.le_of_ble_eq_true rfl) (Nat.le_of_ble_eq_true rfl) ?_
            refine am_steps ok_Bo_putStatement 1 (x' := (76, [some (.ref 10), some (.int v1), some (.ref 7), some (.int v3), some (.ref b25)], [.ref 7, .long (q133.2.2.1 1005 b25)], h138, 0, 0)) rfl (Nat.le_of_ble_eq_true rfl) (Nat.le_of_ble_eq_true rfl) ?_
            obtain ⟨q144, hq145, hd146⟩ := Option.bind_eq_some_iff.mp hd; clear hd; have hd := hd146; clear hd146
            refine am_call ok_Bo_putStatement hk_Bo_putFigure rfl (args' := [.long (q133.2.2.1 1005 b25), .ref 7]) (rest := []) rfl (c_Bo_putFigure (q133.2.2.1 1005 b25) q133 h138 hR140  q144 hq145) (Nat.le_of_ble_eq_true rfl) (Nat.le_of_ble_eq_true rfl) (Nat.le_of_ble_eq_true rfl) (Nat.le_of_ble_eq_true rfl) (fun r147 h149 z148 => ?_)
            obtain ⟨rfl, hR151, g152, e153⟩ := z148
            have f154 := hF.tr f143 g152
            show am_S _ _ _ _ _ _ _ (79, [some (.ref 10), some (.int v1), some (.ref 7), some (.int v3), some (.ref b25)], [], h149, 0, 0) _
            refine am_steps ok_Bo_putStatement 1 (x' := (81, [some (.ref 10), some (.int v1), some (.ref 7), some (.int v3), some (.ref b25)], [.ref b25], h149, 0, 0)) rfl (Nat.le_of_ble_eq_true rfl) (Nat.le_of_ble_eq_true rfl) ?_
            refine hr_get ok_Bo_putStatement rfl hR151 (kd := 10) (((hk28.up e131).up e142).up e153) rfl (Nat.le_of_ble_eq_true rfl) (Nat.le_of_ble_eq_true rfl) (v := .long (q144.2.2.1 1006 b25)) rfl (pc' := 84) rfl (Nat.le_of_ble_eq_true rfl) (Nat.le_of_ble_eq_true rfl) ?_
            refine am_steps ok_Bo_putStatement 1 (x' := (85, [some (.ref 10), some (.int v1), some (.ref 7), some (.int v3), some (.ref b25)], [.ref 7, .long (q144.2.2.1 1006 b25)], h149, 0, 0)) rfl (Nat.le_of_ble_eq_true rfl) (Nat.le_of_ble_eq_true rfl) ?_
            obtain ⟨q155, hq156, hd157⟩ := Option.bind_eq_some_iff.mp hd; clear hd; have hd := hd157; clear hd157
            refine am_call ok_Bo_putStatement hk_Bo_putFigure rfl (args' := [.long (q144.2.2.1 1006 b25), .ref 7]) (rest := []) rfl (c_Bo_putFigure (q144.2.2.1 1006 b25) q144 h149 hR151  q155 hq156) (Nat.le_of_ble_eq_true rfl) (Nat.le_of_ble_eq_true rfl) (Nat.le_of_ble_eq_true rfl) (Nat.le_of_ble_eq_true rfl) (fun r158 h160 z159 => ?_)
            obtain ⟨rfl, hR162, g163, e164⟩ := z159
            have f165 := hF.tr f154 g163
            show am_S _ _ _ _ _ _ _ (88, [some (.ref 10), some (.int v1), some (.ref 7), some (.int v3), some (.ref b25)], [], h160, 0, 0) _
            refine am_steps ok_Bo_putStatement 1 (x' := (90, [some (.ref 10), some (.int v1), some (.ref 7), some (.int v3), some (.ref b25)], [.ref b25], h160, 0, 0)) rfl (Nat.le_of_ble_eq_true rfl) (Nat.le_of_ble_eq_true rfl) ?_
            refine hr_get ok_Bo_putStatement rfl hR162 (kd := 10) ((((hk28.up e131).up e142).up e153).up e164) rfl (Nat.le_of_ble_eq_true rfl) (Nat.le_of_ble_eq_true rfl) (v := .long (q155.2.2.1 1001 b25)) rfl (pc' := 93) rfl (Nat.le_of_ble_eq_true rfl) (Nat.le_of_ble_eq_true rfl) ?_
            refine am_steps ok_Bo_putStatement 1 (x' := (94, [some (.ref 10), some (.int v1), some (.ref 7), some (.int v3), some (.ref b25)], [.ref 7, .long (q155.2.2.1 1001 b25)], h160, 0, 0)) rfl (Nat.le_of_ble_eq_true rfl) (Nat.le_of_ble_eq_true rfl) ?_
            obtain ⟨q166, hq167, hd168⟩ := Option.bind_eq_some_iff.mp hd; clear hd; have hd := hd168; clear hd168
            refine am_call ok_Bo_putStatement hk_Bo_putFigure rfl (args' := [.long (q155.2.2.1 1001 b25), .ref 7]) (rest := []) rfl (c_Bo_putFigure (q155.2.2.1 1001 b25) q155 h160 hR162  q166 hq167) (Nat.le_of_ble_eq_true rfl) (Nat.le_of_ble_eq_true rfl) (Nat.le_of_ble_eq_true rfl) (Nat.le_of_ble_eq_true rfl) (fun r169 h171 z170 => ?_)
            obtain ⟨rfl, hR173, g174, e175⟩ := z170
            have f176 := hF.tr f165 g174
            show am_S _ _ _ _ _ _ _ (97, [some (.ref 10), some (.int v1), some (.ref 7), some (.int v3), some (.ref b25)], [], h171, 0, 0) _
            refine am_steps ok_Bo_putStatement 1 (x' := (99, [some (.ref 10), some (.int v1), some (.ref 7), some (.int v3), some (.ref b25)], [.ref b25], h171, 0, 0)) rfl (Nat.le_of_ble_eq_true rfl) (Nat.le_of_ble_eq_true rfl) ?_
            refine hr_get ok_Bo_putStatement rfl hR173 (kd := 10) (((((hk28.up e131).up e142).up e153).up e164).up e175) rfl (Nat.le_of_ble_eq_true rfl) (Nat.le_of_ble_eq_true rfl) (v := .int (q166.2.1 1007 b25)) rfl (pc' := 102) rfl (Nat.le_of_ble_eq_true rfl) (Nat.le_of_ble_eq_true rfl) ?_
            refine am_steps ok_Bo_putStatement 2 (x' := (104, [some (.ref 10), some (.int v1), some (.ref 7), some (.int v3), some (.ref b25)], [.ref 7, .long (Int32.toInt64 (q166.2.1 1007 b25))], h171, 0, 0)) rfl (Nat.le_of_ble_eq_true rfl) (Nat.le_of_ble_eq_true rfl) ?_
            obtain ⟨q177, hq178, hd179⟩ := Option.bind_eq_some_iff.mp hd; clear hd; have hd := hd179; clear hd179
            refine am_call ok_Bo_putStatement hk_Bo_putFigure rfl (args' := [.long (Int32.toInt64 (q166.2.1 1007 b25)), .ref 7]) (rest := []) rfl (c_Bo_putFigure (Int32.toInt64 (q166.2.1 1007 b25)) q166 h171 hR173  q177 hq178) (Nat.le_of_ble_eq_true rfl) (Nat.le_of_ble_eq_true rfl) (Nat.le_of_ble_eq_true rfl) (Nat.le_of_ble_eq_true rfl) (fun r180 h182 z181 => ?_)
            obtain ⟨rfl, hR184, g185, e186⟩ := z181
            have f187 := hF.tr f176 g185
            show am_S _ _ _ _ _ _ _ (107, [some (.ref 10), some (.int v1), some (.ref 7), some (.int v3), some (.ref b25)], [], h182, 0, 0) _
            refine am_steps ok_Bo_putStatement 2 (x' := (110, [some (.ref 10), some (.int v1), some (.ref 7), some (.int v3), some (.ref b25)], [.int 10, .ref 7], h182, 0, 0)) rfl (Nat.le_of_ble_eq_true rfl) (Nat.le_of_ble_eq_true rfl) ?_
            obtain ⟨q188, hq189, hd190⟩ := Option.bind_eq_some_iff.mp hd; clear hd; have hd := hd190; clear hd190
            refine ar_cv ok_Bo_putStatement hk_An_put rfl rfl (As := [.int 10]) (ad := 7) (rest := []) rfl rfl (hR184.ob (hs_k hR184 (a := 7) rfl) (Nat.le_of_ble_eq_true rfl)) (Nat.le_of_ble_eq_true rfl) (c_An_put 10 q177 h182 hR184  q188 hq189) (Nat.le_of_ble_eq_true rfl) (Nat.le_of_ble_eq_true rfl) (Nat.le_of_ble_eq_true rfl) (Nat.le_of_ble_eq_true rfl) (pc' := 113) rfl (fun r191 h193 z192 => ?_)
            obtain ⟨rfl, hR195, g196, e197⟩ := z192
            have f198 := hF.tr f187 g196
            show am_S _ _ _ _ _ _ _ (113, [some (.ref 10), some (.int v1), some (.ref 7), some (.int v3), some (.ref b25)], [], h193, 0, 0) _
            refine am_drop 4 ?_
            cases hd; exact K17 h193 hR195 f198 ((((((e131.tr e142).tr e153).tr e164).tr e175).tr e186).tr e197)
def h_Bo_putStatement (a : Int32) (S : hS) : Option (hS) := (hl_Bo_putStatement_2 100000 a 0 S).bind fun q199 => (some q199)
set_option maxHeartbeats 4000000 in
set_option maxRecDepth 100000 in
theorem c_Bo_putStatement (a : Int32) (S : hS) (h0 : am_H) (hR : RH S h0)  (q : hS) (hd : h_Bo_putStatement a S = some q) : am_Me am_Pr none 3 80 0 0 130 [.ref 10, .int a, .ref 7] h0 (hQv q S.1 h0) := by
  refine am_enter (d := hd_Bo_putStatement) rfl (by decide +kernel) (Nat.le_of_ble_eq_true rfl) ?_
  show am_S _ _ _ _ _ _ _ (0, [some (.ref 10), some (.int a), some (.ref 7), none, none], [], h0, 0, 0) _
  unfold h_Bo_putStatement at hd
  refine am_steps ok_Bo_putStatement 2 (x' := (2, [some (.ref 10), some (.int a), some (.ref 7), some (.int 0), none], [], h0, 0, 0)) rfl (Nat.le_of_ble_eq_true rfl) (Nat.le_of_ble_eq_true rfl) ?_
  obtain ⟨q199, hq200, hd201⟩ := Option.bind_eq_some_iff.mp hd; clear hd; have hd := hd201; clear hd201
  refine Lc_Bo_putStatement_2 S.1 h0 100000 a 0 S h0 hR hF.rf hE.rf  q199 hq200 (fun h202 hR203 f204 e205 => ?_)
  show am_S _ _ _ _ _ _ _ (119, [some (.ref 10), some (.int a), some (.ref 7), none, none], [], h202, 0, 0) _
  cases hd; exact am_ret ok_Bo_putStatement rfl (Nat.le_of_ble_eq_true rfl) (Nat.le_of_ble_eq_true rfl) ⟨rfl, hR203, f204, (hE.rf.tr e205)⟩
def h_Me_copyOfBytes  (S : hS) : Option (Nat × hS) := (hs_nl (S.2.1 801 2) 400).bind fun N4 => ((hs_al S).bind fun a1 => (if hs_cb (hNew S 22 N4) 1 a1 ((hNew S 22 N4).2.1 801 2) = true then (some (a1, (hCpb (hNew S 22 N4) 1 a1 (Int32.toNatClampNeg ((hNew S 22 N4).2.1 801 2))))) else none))
set_option maxHeartbeats 4000000 in
set_option maxRecDepth 100000 in
theorem c_Me_copyOfBytes  (S : hS) (h0 : am_H) (hR : RH S h0)  (q : Nat × hS) (hd : h_Me_copyOfBytes  S = some q) : am_Me am_Pr none 1 30 1 400 187 [.ref 2] h0 (hQo (.ref q.1) (some q.1) 22 q.2 S.1 h0) := by
  refine am_enter (d := hd_Me_copyOfBytes) rfl (by decide +kernel) (Nat.le_of_ble_eq_true rfl) ?_
  show am_S _ _ _ _ _ _ _ (0, [some (.ref 2), none], [], h0, 0, 0) _
  unfold h_Me_copyOfBytes at hd
  refine am_steps ok_Me_copyOfBytes 1 (x' := (1, [some (.ref 2), none], [.ref 2], h0, 0, 0)) rfl (Nat.le_of_ble_eq_true rfl) (Nat.le_of_ble_eq_true rfl) ?_
  refine hr_get ok_Me_copyOfBytes rfl hR (kd := 8) (hs_k hR (a := 2) rfl) rfl (Nat.le_of_ble_eq_true rfl) (Nat.le_of_ble_eq_true rfl) (v := .int (S.2.1 801 2)) rfl (pc' := 4) rfl (Nat.le_of_ble_eq_true rfl) (Nat.le_of_ble_eq_true rfl) ?_
  obtain ⟨N4, hN5, hd6⟩ := Option.bind_eq_some_iff.mp hd; clear hd; have hd := hd6; clear hd6
  obtain ⟨a1, ha2, hd3⟩ := Option.bind_eq_some_iff.mp hd; clear hd; have hd := hd3; clear hd3
  refine hr_newa ok_Me_copyOfBytes rfl hR (kd := 22) rfl (hs_nl1 hN5) (N := N4) (hs_nl2 hN5) (by have := hs_nl3 hN5; first | omega | (dsimp only; omega)) (hs_al1 ha2) (hs_al2 ha2) (hs_nw_i _ 22 _ (Or.inr (Or.inl rfl))) (pc' := 6) rfl (k' := 1) rfl (n' := (0 + N4)) rfl (Nat.le_of_ble_eq_true rfl) (by have := hs_nl3 hN5; omega) (fun h7 hR8 g9 => ?_)
  have f10 := hF.tr hF.rf g9
  have e11 := hNew_E S 22 N4
  have hk12 := hs_al3 ha2 (hNew_K S 22 N4)
  refine am_wide (k' := 1) (n' := 400) (Nat.le_refl _) (by have := hs_nl3 hN5; omega) ?_
  refine am_steps ok_Me_copyOfBytes 2 (x' := (8, [some (.ref 2), some (.ref a1)], [.ref 2], h7, 1, 400)) rfl (Nat.le_of_ble_eq_true rfl) (Nat.le_of_ble_eq_true rfl) ?_
  refine hr_get ok_Me_copyOfBytes rfl hR8 (kd := 8) (hs_k hR8 (a := 2) rfl) rfl (Nat.le_of_ble_eq_true rfl) (Nat.le_of_ble_eq_true rfl) (v := .ref 1) (congrArg va_rf (hR8.2.2.2.2.1 (800, 2, 1) (by decide))) (pc' := 11) rfl (Nat.le_of_ble_eq_true rfl) (Nat.le_of_ble_eq_true rfl) ?_
  refine am_steps ok_Me_copyOfBytes 4 (x' := (15, [some (.ref 2), some (.ref a1)], [.ref 2, .int 0, .ref a1, .int 0, .ref 1], h7, 1, 400)) rfl (Nat.le_of_ble_eq_true rfl) (Nat.le_of_ble_eq_true rfl) ?_
  refine hr_get ok_Me_copyOfBytes rfl hR8 (kd := 8) (hs_k hR8 (a := 2) rfl) rfl (Nat.le_of_ble_eq_true rfl) (Nat.le_of_ble_eq_true rfl) (v := .int ((hNew S 22 N4).2.1 801 2)) rfl (pc' := 18) rfl (Nat.le_of_ble_eq_true rfl) (Nat.le_of_ble_eq_true rfl) ?_
  split at hd
  · rename_i hz13
    refine hr_copyb (d0 := hd_Me_copyOfBytes) rfl (x := 90) (w0 := 896) (by decide +kernel) (by decide +kernel) hR8 (hs_k hR8 (a := 1) rfl) hk12 hz13 (Nat.le_of_ble_eq_true rfl) (by decide +kernel) (pc' := 21) rfl (fun h14 hR15 g16 => ?_)
    have f17 := hF.tr f10 g16
    refine am_steps ok_Me_copyOfBytes 1 (x' := (22, [some (.ref 2), some (.ref a1)], [.ref a1], h14, 1, 400)) rfl (Nat.le_of_ble_eq_true rfl) (Nat.le_of_ble_eq_true rfl) ?_
    cases hd; exact am_ret ok_Me_copyOfBytes rfl (Nat.le_of_ble_eq_true rfl) (Nat.le_of_ble_eq_true rfl) ⟨rfl, (fun _ hz => by cases hz; exact hk12), hR15, f17, (hE.rf.tr e11)⟩
  · cases hd
def h_Se_init (a : Nat) (S : hS) : Option (hS) := (h_Me_copyOfBytes  (hpL (hpI S 1200 a (S.2.1 813 2)) 1201 a (S.2.2.1 806 2))).bind fun q9 => (some (hpR q9.2 1202 a (some q9.1)))
set_option maxHeartbeats 4000000 in
set_option maxRecDepth 100000 in
theorem c_Se_init (a : Nat) (S : hS) (h0 : am_H) (hR : RH S h0) (ha : hK S.1 a 12) (q : hS) (hd : h_Se_init a S = some q) : am_Me am_Pr none 2 51 1 400 226 [.ref a, .ref 2] h0 (hQv q S.1 h0) := by
  refine am_enter (d := hd_Se_init) rfl (by decide +kernel) (Nat.le_of_ble_eq_true rfl) ?_
  show am_S _ _ _ _ _ _ _ (0, [some (.ref a), some (.ref 2)], [], h0, 0, 0) _
  unfold h_Se_init at hd
  refine am_steps ok_Se_init 1 (x' := (1, [some (.ref a), some (.ref 2)], [.ref a], h0, 0, 0)) rfl (Nat.le_of_ble_eq_true rfl) (Nat.le_of_ble_eq_true rfl) ?_
  refine am_steps ok_Se_init 3 (x' := (6, [some (.ref a), some (.ref 2)], [.ref 2, .ref a], h0, 0, 0)) rfl (Nat.le_of_ble_eq_true rfl) (Nat.le_of_ble_eq_true rfl) ?_
  refine hr_get ok_Se_init rfl hR (kd := 8) (hs_k hR (a := 2) rfl) rfl (Nat.le_of_ble_eq_true rfl) (Nat.le_of_ble_eq_true rfl) (v := .int (S.2.1 813 2)) rfl (pc' := 9) rfl (Nat.le_of_ble_eq_true rfl) (Nat.le_of_ble_eq_true rfl) ?_
  refine hr_put ok_Se_init rfl hR (kd := 12) ha rfl (Nat.le_of_ble_eq_true rfl) (Nat.le_of_ble_eq_true rfl) rfl (S' := (hpI S 1200 a (S.2.1 813 2))) rfl (hWT.up hR.2.2 rfl rfl rfl) (pc' := 12) rfl (Nat.le_of_ble_eq_true rfl) (Nat.le_of_ble_eq_true rfl) (fun h1 hR2 g3 => ?_)
  have f4 := hF.tr hF.rf g3
  refine am_steps ok_Se_init 2 (x' := (14, [some (.ref a), some (.ref 2)], [.ref 2, .ref a], h1, 0, 0)) rfl (Nat.le_of_ble_eq_true rfl) (Nat.le_of_ble_eq_true rfl) ?_
  refine hr_get ok_Se_init rfl hR2 (kd := 8) (hs_k hR2 (a := 2) rfl) rfl (Nat.le_of_ble_eq_true rfl) (Nat.le_of_ble_eq_true rfl) (v := .long (S.2.2.1 806 2)) rfl (pc' := 17) rfl (Nat.le_of_ble_eq_true rfl) (Nat.le_of_ble_eq_true rfl) ?_
  refine hr_put ok_Se_init rfl hR2 (kd := 12) ha rfl (Nat.le_of_ble_eq_true rfl) (Nat.le_of_ble_eq_true rfl) rfl (S' := (hpL (hpI S 1200 a (S.2.1 813 2)) 1201 a (S.2.2.1 806 2))) rfl (hWT.up hR2.2.2 rfl rfl rfl) (pc' := 20) rfl (Nat.le_of_ble_eq_true rfl) (Nat.le_of_ble_eq_true rfl) (fun h5 hR6 g7 => ?_)
  have f8 := hF.tr f4 g7
  refine am_steps ok_Se_init 2 (x' := (22, [some (.ref a), some (.ref 2)], [.ref 2, .ref a], h5, 0, 0)) rfl (Nat.le_of_ble_eq_true rfl) (Nat.le_of_ble_eq_true rfl) ?_
  obtain ⟨q9, hq10, hd11⟩ := Option.bind_eq_some_iff.mp hd; clear hd; have hd := hd11; clear hd11
  refine ar_cv ok_Se_init hk_Me_copyOfBytes rfl rfl (As := []) (ad := 2) (rest := [.ref a]) rfl rfl (hR6.ob (hs_k hR6 (a := 2) rfl) (Nat.le_of_ble_eq_true rfl)) (Nat.le_of_ble_eq_true rfl) (c_Me_copyOfBytes  (hpL (hpI S 1200 a (S.2.1 813 2)) 1201 a (S.2.2.1 806 2)) h5 hR6  q9 hq10) (Nat.le_of_ble_eq_true rfl) (Nat.le_of_ble_eq_true rfl) (Nat.le_of_ble_eq_true rfl) (Nat.le_of_ble_eq_true rfl) (pc' := 25) rfl (fun r12 h14 z13 => ?_)
  obtain ⟨rfl, hk15, hR16, g17, e18⟩ := z13
  have f19 := hF.tr f8 g17
  show am_S _ _ _ _ _ _ _ (25, [some (.ref a), some (.ref 2)], [.ref q9.1, .ref a], h14, 1, 400) _
  refine hr_put ok_Se_init rfl hR16 (kd := 12) (ha.up e18) rfl (Nat.le_of_ble_eq_true rfl) (Nat.le_of_ble_eq_true rfl) rfl (S' := (hpR q9.2 1202 a (some q9.1))) rfl (hWT.ref hR16.2.2 (by decide) (fun _ hz => by cases hz; exact (hk15 _ rfl))) (pc' := 28) rfl (Nat.le_of_ble_eq_true rfl) (Nat.le_of_ble_eq_true rfl) (fun h20 hR21 g22 => ?_)
  have f23 := hF.tr f19 g22
  cases hd; exact am_ret ok_Se_init rfl (Nat.le_of_ble_eq_true rfl) (Nat.le_of_ble_eq_true rfl) ⟨rfl, hR21, f23, (hE.rf.tr e18)⟩
def h_In_init (a : Nat) (b : Int32) (S : hS) : Option (hS) := (hs_nl b 4).bind fun N24 => ((hs_al (hpI (hpL (hpI (hpI (hpI S 704 a 0) 700 a (S.2.1 813 2)) 701 a (S.2.1 805 2)) 702 a (S.2.2.1 806 2)) 703 a (S.2.1 817 2))).bind fun a21 => ((hs_nl (b * 4) 16).bind fun N40 => ((hs_al (hpR (hNew (hpI (hpL (hpI (hpI (hpI S 704 a 0) 700 a (S.2.1 813 2)) 701 a (S.2.1 805 2)) 702 a (S.2.2.1 806 2)) 703 a (S.2.1 817 2)) 20 N24) 706 a (some a21))).bind fun a37 => ((hs_nl (b * 4) 16).bind fun N56 => ((hs_al (hpR (hNew (hpR (hNew (hpI (hpL (hpI (hpI (hpI S 704 a 0) 700 a (S.2.1 813 2)) 701 a (S.2.1 805 2)) 702 a (S.2.2.1 806 2)) 703 a (S.2.1 817 2)) 20 N24) 706 a (some a21)) 26 N40) 708 a (some a37))).bind fun a53 => (some (hpR (hNew (hpR (hNew (hpR (hNew (hpI (hpL (hpI (hpI (hpI S 704 a 0) 700 a (S.2.1 813 2)) 701 a (S.2.1 805 2)) 702 a (S.2.2.1 806 2)) 703 a (S.2.1 817 2)) 20 N24) 706 a (some a21)) 26 N40) 708 a (some a37)) 21 N56) 709 a (some a53))))))))
set_option maxHeartbeats 4000000 in
set_option maxRecDepth 100000 in
theorem c_In_init (a : Nat) (b : Int32) (S : hS) (h0 : am_H) (hR : RH S h0) (ha : hK S.1 a 7) (q : hS) (hd : h_In_init a b S = some q) : am_Me am_Pr none 1 30 3 36 168 [.ref a, .ref 2, .int b] h0 (hQv q S.1 h0) := by
  refine am_enter (d := hd_In_init) rfl (by decide +kernel) (Nat.le_of_ble_eq_true rfl) ?_
  show am_S _ _ _ _ _ _ _ (0, [some (.ref a), some (.ref 2), some (.int b)], [], h0, 0, 0) _
  unfold h_In_init at hd
  refine am_steps ok_In_init 1 (x' := (1, [some (.ref a), some (.ref 2), some (.int b)], [.ref a], h0, 0, 0)) rfl (Nat.le_of_ble_eq_true rfl) (Nat.le_of_ble_eq_true rfl) ?_
  refine am_steps ok_In_init 3 (x' := (6, [some (.ref a), some (.ref 2), some (.int b)], [.int 0, .ref a], h0, 0, 0)) rfl (Nat.le_of_ble_eq_true rfl) (Nat.le_of_ble_eq_true rfl) ?_
  refine hr_put ok_In_init rfl hR (kd := 7) ha rfl (Nat.le_of_ble_eq_true rfl) (Nat.le_of_ble_eq_true rfl) rfl (S' := (hpI S 704 a 0)) rfl (hWT.up hR.2.2 rfl rfl rfl) (pc' := 9) rfl (Nat.le_of_ble_eq_true rfl) (Nat.le_of_ble_eq_true rfl) (fun h1 hR2 g3 => ?_)
  have f4 := hF.tr hF.rf g3
  refine am_steps ok_In_init 2 (x' := (11, [some (.ref a), some (.ref 2), some (.int b)], [.ref 2, .ref a], h1, 0, 0)) rfl (Nat.le_of_ble_eq_true rfl) (Nat.le_of_ble_eq_true rfl) ?_
  refine hr_get ok_In_init rfl hR2 (kd := 8) (hs_k hR2 (a := 2) rfl) rfl (Nat.le_of_ble_eq_true rfl) (Nat.le_of_ble_eq_true rfl) (v := .int (S.2.1 813 2)) rfl (pc' := 14) rfl (Nat.le_of_ble_eq_true rfl) (Nat.le_of_ble_eq_true rfl) ?_
  refine hr_put ok_In_init rfl hR2 (kd := 7) ha rfl (Nat.le_of_ble_eq_true rfl) (Nat.le_of_ble_eq_true rfl) rfl (S' := (hpI (hpI S 704 a 0) 700 a (S.2.1 813 2))) rfl (hWT.up hR2.2.2 rfl rfl rfl) (pc' := 17) rfl (Nat.le_of_ble_eq_true rfl) (Nat.le_of_ble_eq_true rfl) (fun h5 hR6 g7 => ?_)
  have f8 := hF.tr f4 g7
  refine am_steps ok_In_init 2 (x' := (19, [some (.ref a), some (.ref 2), some (.int b)], [.ref 2, .ref a], h5, 0, 0)) rfl (Nat.le_of_ble_eq_true rfl) (Nat.le_of_ble_eq_true rfl) ?_
  refine hr_get ok_In_init rfl hR6 (kd := 8) (hs_k hR6 (a := 2) rfl) rfl (Nat.le_of_ble_eq_true rfl) (Nat.le_of_ble_eq_true rfl) (v := .int (S.2.1 805 2)) rfl (pc' := 22) rfl (Nat.le_of_ble_eq_true rfl) (Nat.le_of_ble_eq_true rfl) ?_
  refine hr_put ok_In_init rfl hR6 (kd := 7) ha rfl (Nat.le_of_ble_eq_true rfl) (Nat.le_of_ble_eq_true rfl) rfl (S' := (hpI (hpI (hpI S 704 a 0) 700 a (S.2.1 813 2)) 701 a (S.2.1 805 2))) rfl (hWT.up hR6.2.2 rfl rfl rfl) (pc' := 25) rfl (Nat.le_of_ble_eq_true rfl) (Nat.le_of_ble_eq_true rfl) (fun h9 hR10 g11 => ?_)
  have f12 := hF.tr f8 g11
  refine am_steps ok_In_init 2 (x' := (27, [some (.ref a), some (.ref 2), some (.int b)], [.ref 2, .ref a], h9, 0, 0)) rfl (Nat.le_of_ble_eq_true rfl) (Nat.le_of_ble_eq_true rfl) ?_
  refine hr_get ok_In_init rfl hR10 (kd := 8) (hs_k hR10 (a := 2) rfl) rfl (Nat.le_of_ble_eq_true rfl) (Nat.le_of_ble_eq_true rfl) (v := .long (S.2.2.1 806 2)) rfl (pc' := 30) rfl (Nat.le_of_ble_eq_true rfl) (Nat.le_of_ble_eq_true rfl) ?_
  refine hr_put ok_In_init rfl hR10 (kd := 7) ha rfl (Nat.le_of_ble_eq_true rfl) (Nat.le_of_ble_eq_true rfl) rfl (S' := (hpL (hpI (hpI (hpI S 704 a 0) 700 a (S.2.1 813 2)) 701 a (S.2.1 805 2)) 702 a (S.2.2.1 806 2))) rfl (hWT.up hR10.2.2 rfl rfl rfl) (pc' := 33) rfl (Nat.le_of_ble_eq_true rfl) (Nat.le_of_ble_eq_true rfl) (fun h13 hR14 g15 => ?_)
  have f16 := hF.tr f12 g15
  refine am_steps ok_In_init 2 (x' := (35, [some (.ref a), some (.ref 2), some (.int b)], [.ref 2, .ref a], h13, 0, 0)) rfl (Nat.le_of_ble_eq_true rfl) (Nat.le_of_ble_eq_true rfl) ?_
  refine hr_get ok_In_init rfl hR14 (kd := 8) (hs_k hR14 (a := 2) rfl) rfl (Nat.le_of_ble_eq_true rfl) (Nat.le_of_ble_eq_true rfl) (v := .int (S.2.1 817 2)) rfl (pc' := 38) rfl (Nat.le_of_ble_eq_true rfl) (Nat.le_of_ble_eq_true rfl) ?_
  refine hr_put ok_In_init rfl hR14 (kd := 7) ha rfl (Nat.le_of_ble_eq_true rfl) (Nat.le_of_ble_eq_true rfl) rfl (S' := (hpI (hpL (hpI (hpI (hpI S 704 a 0) 700 a (S.2.1 813 2)) 701 a (S.2.1 805 2)) 702 a (S.2.2.1 806 2)) 703 a (S.2.1 817 2))) rfl (hWT.up hR14.2.2 rfl rfl rfl) (pc' := 41) rfl (Nat.le_of_ble_eq_true rfl) (Nat.le_of_ble_eq_true rfl) (fun h17 hR18 g19 => ?_)
  have f20 := hF.tr f16 g19
  refine am_steps ok_In_init 2 (x' := (43, [some (.ref a), some (.ref 2), some (.int b)], [.int b, .ref a], h17, 0, 0)) rfl (Nat.le_of_ble_eq_true rfl) (Nat.le_of_ble_eq_true rfl) ?_
  obtain ⟨N24, hN25, hd26⟩ := Option.bind_eq_some_iff.mp hd; clear hd; have hd := hd26; clear hd26
  obtain ⟨a21, ha22, hd23⟩ := Option.bind_eq_some_iff.mp hd; clear hd; have hd := hd23; clear hd23
  refine hr_newa ok_In_init rfl hR18 (kd := 20) rfl (hs_nl1 hN25) (N := N24) (hs_nl2 hN25) (by have := hs_nl3 hN25; first | omega | (dsimp only; omega)) (hs_al1 ha22) (hs_al2 ha22) (hs_nw_i _ 20 _ (Or.inl rfl)) (pc' := 45) rfl (k' := 1) rfl (n' := (0 + N24)) rfl (Nat.le_of_ble_eq_true rfl) (by have := hs_nl3 hN25; omega) (fun h27 hR28 g29 => ?_)
  have f30 := hF.tr f20 g29
  have e31 := hNew_E (hpI (hpL (hpI (hpI (hpI S 704 a 0) 700 a (S.2.1 813 2)) 701 a (S.2.1 805 2)) 702 a (S.2.2.1 806 2)) 703 a (S.2.1 817 2)) 20 N24
  have hk32 := hs_al3 ha22 (hNew_K (hpI (hpL (hpI (hpI (hpI S 704 a 0) 700 a (S.2.1 813 2)) 701 a (S.2.1 805 2)) 702 a (S.2.2.1 806 2)) 703 a (S.2.1 817 2)) 20 N24)
  refine am_wide (k' := 1) (n' := 4) (Nat.le_refl _) (by have := hs_nl3 hN25; omega) ?_
  refine hr_put ok_In_init rfl hR28 (kd := 7) (ha.up e31) rfl (Nat.le_of_ble_eq_true rfl) (Nat.le_of_ble_eq_true rfl) rfl (S' := (hpR (hNew (hpI (hpL (hpI (hpI (hpI S 704 a 0) 700 a (S.2.1 813 2)) 701 a (S.2.1 805 2)) 702 a (S.2.2.1 806 2)) 703 a (S.2.1 817 2)) 20 N24) 706 a (some a21))) rfl (hWT.ref hR28.2.2 (by decide) (fun _ hz => by cases hz; exact hk32)) (pc' := 48) rfl (Nat.le_of_ble_eq_true rfl) (Nat.le_of_ble_eq_true rfl) (fun h33 hR34 g35 => ?_)
  have f36 := hF.tr f30 g35
  refine am_steps ok_In_init 4 (x' := (52, [some (.ref a), some (.ref 2), some (.int b)], [.int (b * 4), .ref a], h33, 1, 4)) rfl (Nat.le_of_ble_eq_true rfl) (Nat.le_of_ble_eq_true rfl) ?_
  obtain ⟨N40, hN41, hd42⟩ := Option.bind_eq_some_iff.mp hd; clear hd; have hd := hd42; clear hd42
  obtain ⟨a37, ha38, hd39⟩ := Option.bind_eq_some_iff.mp hd; clear hd; have hd := hd39; clear hd39
  refine hr_anew ok_In_init rfl hR34 (kd := 26) (by decide) rfl (hs_nl1 hN41) (N := N40) (hs_nl2 hN41) (by have := hs_nl3 hN41; first | omega | (dsimp only; omega)) (hs_al1 ha38) (hs_al2 ha38) (pc' := 55) rfl (k' := 2) rfl (n' := (4 + N40)) rfl (Nat.le_of_ble_eq_true rfl) (by have := hs_nl3 hN41; omega) (fun h43 hR44 g45 => ?_)
  have f46 := hF.tr f36 g45
  have e47 := hNew_E (hpR (hNew (hpI (hpL (hpI (hpI (hpI S 704 a 0) 700 a (S.2.1 813 2)) 701 a (S.2.1 805 2)) 702 a (S.2.2.1 806 2)) 703 a (S.2.1 817 2)) 20 N24) 706 a (some a21)) 26 N40
  have hk48 := hs_al3 ha38 (hNew_K (hpR (hNew (hpI (hpL (hpI (hpI (hpI S 704 a 0) 700 a (S.2.1 813 2)) 701 a (S.2.1 805 2)) 702 a (S.2.2.1 806 2)) 703 a (S.2.1 817 2)) 20 N24) 706 a (some a21)) 26 N40)
  refine am_wide (k' := 2) (n' := 20) (Nat.le_refl _) (by have := hs_nl3 hN41; omega) ?_
  refine hr_put ok_In_init rfl hR44 (kd := 7) ((ha.up e31).up e47) rfl (Nat.le_of_ble_eq_true rfl) (Nat.le_of_ble_eq_true rfl) rfl (S' := (hpR (hNew (hpR (hNew (hpI (hpL (hpI (hpI (hpI S 704 a 0) 700 a (S.2.1 813 2)) 701 a (S.2.1 805 2)) 702 a (S.2.2.1 806 2)) 703 a (S.2.1 817 2)) 20 N24) 706 a (some a21)) 26 N40) 708 a (some a37))) rfl (hWT.ref hR44.2.2 (by decide) (fun _ hz => by cases hz; exact hk48)) (pc' := 58) rfl (Nat.le_of_ble_eq_true rfl) (Nat.le_of_ble_eq_true rfl) (fun h49 hR50 g51 => ?_)
  have f52 := hF.tr f46 g51
  refine am_steps ok_In_init 4 (x' := (62, [some (.ref a), some (.ref 2), some (.int b)], [.int (b * 4), .ref a], h49, 2, 20)) rfl (Nat.le_of_ble_eq_true rfl) (Nat.le_of_ble_eq_true rfl) ?_
  obtain ⟨N56, hN57, hd58⟩ := Option.bind_eq_some_iff.mp hd; clear hd; have hd := hd58; clear hd58
  obtain ⟨a53, ha54, hd55⟩ := Option.bind_eq_some_iff.mp hd; clear hd; have hd := hd55; clear hd55
  refine hr_newa ok_In_init rfl hR50 (kd := 21) rfl (hs_nl1 hN57) (N := N56) (hs_nl2 hN57) (by have := hs_nl3 hN57; first | omega | (dsimp only; omega)) (hs_al1 ha54) (hs_al2 ha54) (hs_nw_l _ _) (pc' := 64) rfl (k' := 3) rfl (n' := (20 + N56)) rfl (Nat.le_of_ble_eq_true rfl) (by have := hs_nl3 hN57; omega) (fun h59 hR60 g61 => ?_)
  have f62 := hF.tr f52 g61
  have e63 := hNew_E (hpR (hNew (hpR (hNew (hpI (hpL (hpI (hpI (hpI S 704 a 0) 700 a (S.2.1 813 2)) 701 a (S.2.1 805 2)) 702 a (S.2.2.1 806 2)) 703 a (S.2.1 817 2)) 20 N24) 706 a (some a21)) 26 N40) 708 a (some a37)) 21 N56
  have hk64 := hs_al3 ha54 (hNew_K (hpR (hNew (hpR (hNew (hpI (hpL (hpI (hpI (hpI S 704 a 0) 700 a (S.2.1 813 2)) 701 a (S.2.1 805 2)) 702 a (S.2.2.1 806 2)) 703 a (S.2.1 817 2)) 20 N24) 706 a (some a21)) 26 N40) 708 a (some a37)) 21 N56)
  refine am_wide (k' := 3) (n' := 36) (Nat.le_refl _) (by have := hs_nl3 hN57; omega) ?_
  refine hr_put ok_In_init rfl hR60 (kd := 7) (((ha.up e31).up e47).up e63) rfl (Nat.le_of_ble_eq_true rfl) (Nat.le_of_ble_eq_true rfl) rfl (S' := (hpR (hNew (hpR (hNew (hpR (hNew (hpI (hpL (hpI (hpI (hpI S 704 a 0) 700 a (S.2.1 813 2)) 701 a (S.2.1 805 2)) 702 a (S.2.2.1 806 2)) 703 a (S.2.1 817 2)) 20 N24) 706 a (some a21)) 26 N40) 708 a (some a37)) 21 N56) 709 a (some a53))) rfl (hWT.ref hR60.2.2 (by decide) (fun _ hz => by cases hz; exact hk64)) (pc' := 67) rfl (Nat.le_of_ble_eq_true rfl) (Nat.le_of_ble_eq_true rfl) (fun h65 hR66 g67 => ?_)
  have f68 := hF.tr f62 g67
  cases hd; exact am_ret ok_In_init rfl (Nat.le_of_ble_eq_true rfl) (Nat.le_of_ble_eq_true rfl) ⟨rfl, hR66, f68, (((hE.rf.tr e31).tr e47).tr e63)⟩
def h_In_awaitUnlessSender (a : Nat) (b : Int32) (S : hS) : Option (hS) := if (b : Int32) = (S.2.1 700 a) then (some S) else ((h_In_awaits a b S).bind fun q2 => (if ¬ (q2 : Int32) = 0 then (some S) else (((S.2.2.2.1 706 a)).bind fun b11 => (if ((Int32.ofNat (hln S.1 b11)) : Int32) ≤ (S.2.1 707 a) then (some S) else ((am_ix (S.2.1 707 a) (hln S.1 b11)).bind fun j16 => (some (hpI (hpA S b11 j16 b) 707 a ((S.2.1 707 a) + 1))))))))
set_option maxHeartbeats 4000000 in
set_option maxRecDepth 100000 in
theorem c_In_awaitUnlessSender (a : Nat) (b : Int32) (S : hS) (h0 : am_H) (hR : RH S h0) (ha : hK S.1 a 7) (q : hS) (hd : h_In_awaitUnlessSender a b S = some q) : am_Me am_Pr none 1 22 0 0 169 [.ref a, .int b] h0 (hQv q S.1 h0) := by
  refine am_enter (d := hd_In_awaitUnlessSender) rfl (by decide +kernel) (Nat.le_of_ble_eq_true rfl) ?_
  show am_S _ _ _ _ _ _ _ (0, [some (.ref a), some (.int b)], [], h0, 0, 0) _
  unfold h_In_awaitUnlessSender at hd
  refine am_steps ok_In_awaitUnlessSender 2 (x' := (2, [some (.ref a), some (.int b)], [.ref a, .int b], h0, 0, 0)) rfl (Nat.le_of_ble_eq_true rfl) (Nat.le_of_ble_eq_true rfl) ?_
  refine hr_get ok_In_awaitUnlessSender rfl hR (kd := 7) ha rfl (Nat.le_of_ble_eq_true rfl) (Nat.le_of_ble_eq_true rfl) (v := .int (S.2.1 700 a)) rfl (pc' := 5) rfl (Nat.le_of_ble_eq_true rfl) (Nat.le_of_ble_eq_true rfl) ?_
  refine am_steps ok_In_awaitUnlessSender 1 (x' := (if (b : Int32) = (S.2.1 700 a) then 48 else 8, [some (.ref a), some (.int b)], [], h0, 0, 0)) rfl (Nat.le_of_ble_eq_true rfl) (Nat.le_of_ble_eq_true rfl) ?_
  refine am_if (fun hc1 => ?_) (fun hc1 => ?_)
  · rw [if_pos hc1] at hd
    cases hd; exact am_ret ok_In_awaitUnlessSender rfl (Nat.le_of_ble_eq_true rfl) (Nat.le_of_ble_eq_true rfl) ⟨rfl, hR, hF.rf, hE.rf⟩
  · rw [if_neg hc1] at hd
    refine am_steps ok_In_awaitUnlessSender 2 (x' := (10, [some (.ref a), some (.int b)], [.int b, .ref a], h0, 0, 0)) rfl (Nat.le_of_ble_eq_true rfl) (Nat.le_of_ble_eq_true rfl) ?_
    obtain ⟨q2, hq3, hd4⟩ := Option.bind_eq_some_iff.mp hd; clear hd; have hd := hd4; clear hd4
    refine ar_cv ok_In_awaitUnlessSender hk_In_awaits rfl rfl (As := [.int b]) (ad := a) (rest := []) rfl rfl (hR.ob ha (Nat.le_of_ble_eq_true rfl)) (Nat.le_of_ble_eq_true rfl) (c_In_awaits a b S h0 hR ha q2 hq3) (Nat.le_of_ble_eq_true rfl) (Nat.le_of_ble_eq_true rfl) (Nat.le_of_ble_eq_true rfl) (Nat.le_of_ble_eq_true rfl) (pc' := 13) rfl (fun r5 h7 z6 => ?_)
    obtain ⟨rfl, z9⟩ := z6; rw [z9]
    show am_S _ _ _ _ _ _ _ (13, [some (.ref a), some (.int b)], [.int q2], h0, 0, 0) _
    refine am_steps ok_In_awaitUnlessSender 1 (x' := (if ¬ (q2 : Int32) = 0 then 48 else 16, [some (.ref a), some (.int b)], [], h0, 0, 0)) rfl (Nat.le_of_ble_eq_true rfl) (Nat.le_of_ble_eq_true rfl) ?_
    refine am_if (fun hc10 => ?_) (fun hc10 => ?_)
    · rw [if_pos hc10] at hd
      cases hd; exact am_ret ok_In_awaitUnlessSender rfl (Nat.le_of_ble_eq_true rfl) (Nat.le_of_ble_eq_true rfl) ⟨rfl, hR, hF.rf, hE.rf⟩
    · rw [if_neg hc10] at hd
      refine am_steps ok_In_awaitUnlessSender 1 (x' := (17, [some (.ref a), some (.int b)], [.ref a], h0, 0, 0)) rfl (Nat.le_of_ble_eq_true rfl) (Nat.le_of_ble_eq_true rfl) ?_
      refine hr_get ok_In_awaitUnlessSender rfl hR (kd := 7) ha rfl (Nat.le_of_ble_eq_true rfl) (Nat.le_of_ble_eq_true rfl) (v := .int (S.2.1 707 a)) rfl (pc' := 20) rfl (Nat.le_of_ble_eq_true rfl) (Nat.le_of_ble_eq_true rfl) ?_
      refine am_steps ok_In_awaitUnlessSender 1 (x' := (21, [some (.ref a), some (.int b)], [.ref a, .int (S.2.1 707 a)], h0, 0, 0)) rfl (Nat.le_of_ble_eq_true rfl) (Nat.le_of_ble_eq_true rfl) ?_
      refine hr_get ok_In_awaitUnlessSender rfl hR (kd := 7) ha rfl (Nat.le_of_ble_eq_true rfl) (Nat.le_of_ble_eq_true rfl) (v := va_rf (S.2.2.2.1 706 a)) rfl (pc' := 24) rfl (Nat.le_of_ble_eq_true rfl) (Nat.le_of_ble_eq_true rfl) ?_
      obtain ⟨b11, hb12, hd13⟩ := Option.bind_eq_some_iff.mp hd; clear hd; have hd := hd13; clear hd13
      have hk14 := (fun b hb => hR.2.2.1 706 _ b hb) b11 hb12
      rw [hb12]
      show am_S _ _ _ _ _ _ _ (24, [some (.ref a), some (.int b)], [.ref b11, .int (S.2.1 707 a)], h0, 0, 0) _
      refine hr_alen ok_In_awaitUnlessSender rfl hR (kd := 20) hk14 (by decide) (w := (Int32.ofNat (hln S.1 b11))) rfl (pc' := 25) rfl (Nat.le_of_ble_eq_true rfl) (Nat.le_of_ble_eq_true rfl) ?_
      refine am_steps ok_In_awaitUnlessSender 1 (x' := (if ((Int32.ofNat (hln S.1 b11)) : Int32) ≤ (S.2.1 707 a) then 48 else 28, [some (.ref a), some (.int b)], [], h0, 0, 0)) rfl (Nat.le_of_ble_eq_true rfl) (Nat.le_of_ble_eq_true rfl) ?_
      refine am_if (fun hc15 => ?_) (fun hc15 => ?_)
      · rw [if_pos hc15] at hd
        cases hd; exact am_ret ok_In_awaitUnlessSender rfl (Nat.le_of_ble_eq_true rfl) (Nat.le_of_ble_eq_true rfl) ⟨rfl, hR, hF.rf, hE.rf⟩
      · rw [if_neg hc15] at hd
        refine am_steps ok_In_awaitUnlessSender 1 (x' := (29, [some (.ref a), some (.int b)], [.ref a], h0, 0, 0)) rfl (Nat.le_of_ble_eq_true rfl) (Nat.le_of_ble_eq_true rfl) ?_
        refine hr_get ok_In_awaitUnlessSender rfl hR (kd := 7) ha rfl (Nat.le_of_ble_eq_true rfl) (Nat.le_of_ble_eq_true rfl) (v := .ref b11) (congrArg va_rf hb12) (pc' := 32) rfl (Nat.le_of_ble_eq_true rfl) (Nat.le_of_ble_eq_true rfl) ?_
        refine am_steps ok_In_awaitUnlessSender 1 (x' := (33, [some (.ref a), some (.int b)], [.ref a, .ref b11], h0, 0, 0)) rfl (Nat.le_of_ble_eq_true rfl) (Nat.le_of_ble_eq_true rfl) ?_
        refine hr_get ok_In_awaitUnlessSender rfl hR (kd := 7) ha rfl (Nat.le_of_ble_eq_true rfl) (Nat.le_of_ble_eq_true rfl) (v := .int (S.2.1 707 a)) rfl (pc' := 36) rfl (Nat.le_of_ble_eq_true rfl) (Nat.le_of_ble_eq_true rfl) ?_
        refine am_steps ok_In_awaitUnlessSender 1 (x' := (37, [some (.ref a), some (.int b)], [.int b, .int (S.2.1 707 a), .ref b11], h0, 0, 0)) rfl (Nat.le_of_ble_eq_true rfl) (Nat.le_of_ble_eq_true rfl) ?_
        obtain ⟨j16, hx17, hd18⟩ := Option.bind_eq_some_iff.mp hd; clear hd; have hd := hd18; clear hd18
        refine hr_iast ok_In_awaitUnlessSender rfl hR hk14 rfl hx17 (pc' := 38) rfl (Nat.le_of_ble_eq_true rfl) (Nat.le_of_ble_eq_true rfl) (fun h19 hR20 g21 => ?_)
        have f22 := hF.tr hF.rf g21
        refine am_steps ok_In_awaitUnlessSender 2 (x' := (40, [some (.ref a), some (.int b)], [.ref a, .ref a], h19, 0, 0)) rfl (Nat.le_of_ble_eq_true rfl) (Nat.le_of_ble_eq_true rfl) ?_
        refine hr_get ok_In_awaitUnlessSender rfl hR20 (kd := 7) ha rfl (Nat.le_of_ble_eq_true rfl) (Nat.le_of_ble_eq_true rfl) (v := .int (S.2.1 707 a)) rfl (pc' := 43) rfl (Nat.le_of_ble_eq_true rfl) (Nat.le_of_ble_eq_true rfl) ?_
        refine am_steps ok_In_awaitUnlessSender 2 (x' := (45, [some (.ref a), some (.int b)], [.int ((S.2.1 707 a) + 1), .ref a], h19, 0, 0)) rfl (Nat.le_of_ble_eq_true rfl) (Nat.le_of_ble_eq_true rfl) ?_
        refine hr_put ok_In_awaitUnlessSender rfl hR20 (kd := 7) ha rfl (Nat.le_of_ble_eq_true rfl) (Nat.le_of_ble_eq_true rfl) rfl (S' := (hpI (hpA S b11 j16 b) 707 a ((S.2.1 707 a) + 1))) rfl (hWT.up hR20.2.2 rfl rfl rfl) (pc' := 48) rfl (Nat.le_of_ble_eq_true rfl) (Nat.le_of_ble_eq_true rfl) (fun h23 hR24 g25 => ?_)
        have f26 := hF.tr f22 g25
        cases hd; exact am_ret ok_In_awaitUnlessSender rfl (Nat.le_of_ble_eq_true rfl) (Nat.le_of_ble_eq_true rfl) ⟨rfl, hR24, f26, hE.rf⟩
