/-! Methods of the class as functions of its state. -/
def hl_Bo_beginDay_22 : Nat → Int32 → Option Nat → Int32 → hS → Option (hS)
  | 0, _, _, _, _ => none
  | fu + 1, v1, v2, v3, s => if ((s.2.1 403 10) : Int32) ≤ v3 then (some s) else ((v2).bind fun b10 => ((am_ix v3 (hln s.1 b10)).bind fun j14 => ((if (s.2.2.2.2.2.2 b10 j14) = none then (some s) else (((s.2.2.2.2.2.2 b10 j14)).bind fun b26 => ((h_Po_beginDay b26 s).bind fun q30 => (some q30)))).bind fun (u17 : hS) => (hl_Bo_beginDay_22 fu v1 v2 (v3 + 1) u17))))
set_option maxHeartbeats 4000000 in
set_option maxRecDepth 100000 in
theorem Lc_Bo_beginDay_22 {Q : Option Value → am_H → Prop} (sh0 : List (Nat × Nat)) (h0 : am_H) : ∀ (fu : Nat) (v1 : Int32) (v2 : Option Nat) (v3 : Int32) (s : hS) (h : am_H), RH s h → hF h0 h → hE sh0 s.1 → (∀ b, v2 = some b → hK s.1 b 26) → ∀ q : hS, hl_Bo_beginDay_22 fu v1 v2 v3 s = some q → (∀ h' : am_H, RH q h' → hF h0 h' → hE sh0 q.1 → am_S am_Pr none 3 64 0 0 128 (48, [some (.ref 10), some (.int v1), some (va_rf v2), none, none], [], h', 0, 0) Q) → am_S am_Pr none 3 64 0 0 128 (22, [some (.ref 10), some (.int v1), some (va_rf v2), some (.int v3), none], [], h, 0, 0) Q := by
  intro fu
  induction fu with
  | zero => intro v1 v2 v3 s h hR f he hv2 q hd; cases hd
  | succ fu ih =>
    intro v1 v2 v3 s h hR f he hv2 q hd kk
    unfold hl_Bo_beginDay_22 at hd
    refine am_steps ok_Bo_beginDay 2 (x' := (24, [some (.ref 10), some (.int v1), some (va_rf v2), some (.int v3), none], [.ref 10, .int v3], h, 0, 0)) rfl (Nat.le_of_ble_eq_true rfl) (Nat.le_of_ble_eq_true rfl) ?_
    refine hr_get ok_Bo_beginDay rfl hR (kd := 4) (hs_k hR (a := 10) rfl) rfl (Nat.le_of_ble_eq_true rfl) (Nat.le_of_ble_eq_true rfl) (v := .int (s.2.1 403 10)) rfl (pc' := 27) rfl (Nat.le_of_ble_eq_true rfl) (Nat.le_of_ble_eq_true rfl) ?_
    refine am_steps ok_Bo_beginDay 1 (x' := (if ((s.2.1 403 10) : Int32) ≤ v3 then 48 else 30, [some (.ref 10), some (.int v1), some (va_rf v2), some (.int v3), none], [], h, 0, 0)) rfl (Nat.le_of_ble_eq_true rfl) (Nat.le_of_ble_eq_true rfl) ?_
    refine am_if (fun hc9 => ?_) (fun hc9 => ?_)
    · rw [if_pos hc9] at hd
      refine am_drop 3 ?_
      cases hd; exact kk h hR f he 
    · rw [if_neg hc9] at hd
      refine hr_aloadn ok_Bo_beginDay rfl rfl (pc' := 31) rfl (Nat.le_of_ble_eq_true rfl) (Nat.le_of_ble_eq_true rfl) ?_
      refine am_steps ok_Bo_beginDay 1 (x' := (32, [some (.ref 10), some (.int v1), some (va_rf v2), some (.int v3), none], [.int v3, va_rf v2], h, 0, 0)) rfl (Nat.le_of_ble_eq_true rfl) (Nat.le_of_ble_eq_true rfl) ?_
      obtain ⟨b10, hb11, hd12⟩ := Option.bind_eq_some_iff.mp hd; clear hd; have hd := hd12; clear hd12
      have hk13 := hv2 b10 hb11
      rw [hb11]
      show am_S _ _ _ _ _ _ _ (32, [some (.ref 10), some (.int v1), some (.ref b10), some (.int v3), none], [.int v3, .ref b10], h, 0, 0) _
      obtain ⟨j14, hx15, hd16⟩ := Option.bind_eq_some_iff.mp hd; clear hd; have hd := hd16; clear hd16
      refine hr_aald ok_Bo_beginDay rfl hR (kd := 26) hk13 (by decide) rfl hx15 (pc' := 33) rfl (Nat.le_of_ble_eq_true rfl) (Nat.le_of_ble_eq_true rfl) ?_
      refine hr_ifnull ok_Bo_beginDay rfl (pc' := 36) rfl (Nat.le_of_ble_eq_true rfl) (Nat.le_of_ble_eq_true rfl) ?_
      obtain ⟨u17, hA19, hB20⟩ := Option.bind_eq_some_iff.mp hd; clear hd
      have K18 : ∀ h' : am_H, RH u17 h' → hF h0 h' → hE s.1 u17.1 → am_S am_Pr none 3 64 0 0 128 (42, [some (.ref 10), some (.int v1), some (.ref b10), some (.int v3), none], [], h', 0, 0) Q := by
        have hd := hB20
        intro h21 hR22 f23 e24
        refine am_steps ok_Bo_beginDay 2 (x' := (22, [some (.ref 10), some (.int v1), some (.ref b10), some (.int (v3 + 1)), none], [], h21, 0, 0)) rfl (Nat.le_of_ble_eq_true rfl) (Nat.le_of_ble_eq_true rfl) ?_
        rw [show Value.ref b10 = va_rf v2 from (congrArg va_rf hb11).symm]
        exact ih v1 v2 (v3 + 1) u17 h21 hR22 f23 (he.tr e24) (fun b hb => (hv2 b hb).up e24) q hd kk
      clear hB20; have hd := hA19; clear hA19
      refine am_if (fun hc25 => ?_) (fun hc25 => ?_)
      · rw [if_pos hc25] at hd
        cases hd; exact K18 h hR f hE.rf
      · rw [if_neg hc25] at hd
        refine am_steps ok_Bo_beginDay 2 (x' := (38, [some (.ref 10), some (.int v1), some (.ref b10), some (.int v3), none], [.int v3, .ref b10], h, 0, 0)) rfl (Nat.le_of_ble_eq_true rfl) (Nat.le_of_ble_eq_true rfl) ?_
        refine hr_aald ok_Bo_beginDay rfl hR (kd := 26) hk13 (by decide) rfl hx15 (pc' := 39) rfl (Nat.le_of_ble_eq_true rfl) (Nat.le_of_ble_eq_true rfl) ?_
        obtain ⟨b26, hb27, hd28⟩ := Option.bind_eq_some_iff.mp hd; clear hd; have hd := hd28; clear hd28
        have hk29 := (fun b hb => hR.2.2.2.1 _ _ (hK.ln hk13) _ b hb) b26 hb27
        rw [hb27]
        show am_S _ _ _ _ _ _ _ (39, [some (.ref 10), some (.int v1), some (.ref b10), some (.int v3), none], [.ref b26], h, 0, 0) _
        obtain ⟨q30, hq31, hd32⟩ := Option.bind_eq_some_iff.mp hd; clear hd; have hd := hd32; clear hd32
        refine ar_cv ok_Bo_beginDay hk_Po_beginDay rfl rfl (As := []) (ad := b26) (rest := []) rfl rfl (hR.ob hk29 (Nat.le_of_ble_eq_true rfl)) (Nat.le_of_ble_eq_true rfl) (c_Po_beginDay b26 s h hR hk29 q30 hq31) (Nat.le_of_ble_eq_true rfl) (Nat.le_of_ble_eq_true rfl) (Nat.le_of_ble_eq_true rfl) (Nat.le_of_ble_eq_true rfl) (pc' := 42) rfl (fun r33 h35 z34 => ?_)
        obtain ⟨rfl, hR37, g38, e39⟩ := z34
        have f40 := hF.tr f g38
        show am_S _ _ _ _ _ _ _ (42, [some (.ref 10), some (.int v1), some (.ref b10), some (.int v3), none], [], h35, 0, 0) _
        cases hd; exact K18 h35 hR37 f40 e39
def hl_Bo_beginDay_61 : Nat → Int32 → Option Nat → Int32 → hS → Option (hS)
  | 0, _, _, _, _ => none
  | fu + 1, v1, v3, v4, s => (v3).bind fun b52 => ((h_AL13_size b52 s).bind fun q56 => (if (q56 : Int32) ≤ v4 then (some s) else ((h_AL13_get b52 v4 s).bind fun q65 => ((q65).bind fun b73 => (hl_Bo_beginDay_61 fu v1 v3 (v4 + 1) (hpL s 1001 b73 0))))))
set_option maxHeartbeats 4000000 in
set_option maxRecDepth 100000 in
theorem Lc_Bo_beginDay_61 {Q : Option Value → am_H → Prop} (sh0 : List (Nat × Nat)) (h0 : am_H) : ∀ (fu : Nat) (v1 : Int32) (v3 : Option Nat) (v4 : Int32) (s : hS) (h : am_H), RH s h → hF h0 h → hE sh0 s.1 → (∀ b, v3 = some b → hK s.1 b 13) → ∀ q : hS, hl_Bo_beginDay_61 fu v1 v3 v4 s = some q → (∀ h' : am_H, RH q h' → hF h0 h' → hE sh0 q.1 → am_S am_Pr none 3 64 0 0 128 (89, [some (.ref 10), some (.int v1), none, some (va_rf v3), none], [], h', 0, 0) Q) → am_S am_Pr none 3 64 0 0 128 (61, [some (.ref 10), some (.int v1), none, some (va_rf v3), some (.int v4)], [], h, 0, 0) Q := by
  intro fu
  induction fu with
  | zero => intro v1 v3 v4 s h hR f he hv3 q hd; cases hd
  | succ fu ih =>
    intro v1 v3 v4 s h hR f he hv3 q hd kk
    unfold hl_Bo_beginDay_61 at hd
    refine am_steps ok_Bo_beginDay 1 (x' := (63, [some (.ref 10), some (.int v1), none, some (va_rf v3), some (.int v4)], [.int v4], h, 0, 0)) rfl (Nat.le_of_ble_eq_true rfl) (Nat.le_of_ble_eq_true rfl) ?_
    refine hr_aloadn ok_Bo_beginDay rfl rfl (pc' := 64) rfl (Nat.le_of_ble_eq_true rfl) (Nat.le_of_ble_eq_true rfl) ?_
    obtain ⟨b52, hb53, hd54⟩ := Option.bind_eq_some_iff.mp hd; clear hd; have hd := hd54; clear hd54
    have hk55 := hv3 b52 hb53
    rw [hb53]
    show am_S _ _ _ _ _ _ _ (64, [some (.ref 10), some (.int v1), none, some (.ref b52), some (.int v4)], [.ref b52, .int v4], h, 0, 0) _
    obtain ⟨q56, hq57, hd58⟩ := Option.bind_eq_some_iff.mp hd; clear hd; have hd := hd58; clear hd58
    refine ar_cv ok_Bo_beginDay hk_AL_size rfl rfl (As := []) (ad := b52) (rest := [.int v4]) rfl rfl (hR.ob hk55 (Nat.le_of_ble_eq_true rfl)) (Nat.le_of_ble_eq_true rfl) (c_AL13_size b52 s h hR hk55 q56 hq57) (Nat.le_of_ble_eq_true rfl) (Nat.le_of_ble_eq_true rfl) (Nat.le_of_ble_eq_true rfl) (Nat.le_of_ble_eq_true rfl) (pc' := 67) rfl (fun r59 h61 z60 => ?_)
    obtain ⟨rfl, z63⟩ := z60; rw [z63]
    show am_S _ _ _ _ _ _ _ (67, [some (.ref 10), some (.int v1), none, some (.ref b52), some (.int v4)], [.int q56, .int v4], h, 0, 0) _
    refine am_steps ok_Bo_beginDay 1 (x' := (if (q56 : Int32) ≤ v4 then 89 else 70, [some (.ref 10), some (.int v1), none, some (.ref b52), some (.int v4)], [], h, 0, 0)) rfl (Nat.le_of_ble_eq_true rfl) (Nat.le_of_ble_eq_true rfl) ?_
    refine am_if (fun hc64 => ?_) (fun hc64 => ?_)
    · rw [if_pos hc64] at hd
      rw [show Value.ref b52 = va_rf v3 from (congrArg va_rf hb53).symm]
      refine am_drop 4 ?_
      cases hd; exact kk h hR f he 
    · rw [if_neg hc64] at hd
      refine am_steps ok_Bo_beginDay 2 (x' := (73, [some (.ref 10), some (.int v1), none, some (.ref b52), some (.int v4)], [.int v4, .ref b52], h, 0, 0)) rfl (Nat.le_of_ble_eq_true rfl) (Nat.le_of_ble_eq_true rfl) ?_
      obtain ⟨q65, hq66, hd67⟩ := Option.bind_eq_some_iff.mp hd; clear hd; have hd := hd67; clear hd67
      refine ar_cv ok_Bo_beginDay hk_AL_get rfl rfl (As := [.int v4]) (ad := b52) (rest := []) rfl rfl (hR.ob hk55 (Nat.le_of_ble_eq_true rfl)) (Nat.le_of_ble_eq_true rfl) (c_AL13_get b52 v4 s h hR hk55 q65 hq66) (Nat.le_of_ble_eq_true rfl) (Nat.le_of_ble_eq_true rfl) (Nat.le_of_ble_eq_true rfl) (Nat.le_of_ble_eq_true rfl) (pc' := 76) rfl (fun r68 h70 z69 => ?_)
      obtain ⟨rfl, z72, hk71⟩ := z69; rw [z72]
      show am_S _ _ _ _ _ _ _ (76, [some (.ref 10), some (.int v1), none, some (.ref b52), some (.int v4)], [va_rf q65], h, 0, 0) _
      obtain ⟨b73, hb74, hd75⟩ := Option.bind_eq_some_iff.mp hd; clear hd; have hd := hd75; clear hd75
      have hk76 := hk71 b73 hb74
      rw [hb74]
      show am_S _ _ _ _ _ _ _ (76, [some (.ref 10), some (.int v1), none, some (.ref b52), some (.int v4)], [.ref b73], h, 0, 0) _
      refine ao_cast (d0 := hd_Bo_beginDay) rfl (x := 48) (a := 719) (b := 10) (by decide +kernel) rfl (by decide +kernel) (hR.ob hk76 (Nat.le_of_ble_eq_true rfl)) (pc' := 79) rfl ?_
      refine am_steps ok_Bo_beginDay 1 (x' := (80, [some (.ref 10), some (.int v1), none, some (.ref b52), some (.int v4)], [.long 0, .ref b73], h, 0, 0)) rfl (Nat.le_of_ble_eq_true rfl) (Nat.le_of_ble_eq_true rfl) ?_
      refine hr_put ok_Bo_beginDay rfl hR (kd := 10) hk76 rfl (Nat.le_of_ble_eq_true rfl) (Nat.le_of_ble_eq_true rfl) rfl (S' := (hpL s 1001 b73 0)) rfl (hWT.up hR.2.2 rfl rfl rfl) (pc' := 83) rfl (Nat.le_of_ble_eq_true rfl) (Nat.le_of_ble_eq_true rfl) (fun h77 hR78 g79 => ?_)
      have f80 := hF.tr f g79
      refine am_steps ok_Bo_beginDay 2 (x' := (61, [some (.ref 10), some (.int v1), none, some (.ref b52), some (.int (v4 + 1))], [], h77, 0, 0)) rfl (Nat.le_of_ble_eq_true rfl) (Nat.le_of_ble_eq_true rfl) ?_
      rw [show Value.ref b52 = va_rf v3 from (congrArg va_rf hb53).symm]
      exact ih v1 v3 (v4 + 1) (hpL s 1001 b73 0) h77 hR78 f80 he hv3 q hd kk
def hl_Bo_beginDay_2 : Nat → Int32 → hS → Option (hS)
  | 0, _, _ => none
  | fu + 1, v1, s => if ((s.2.1 401 10) : Int32) ≤ v1 then (some s) else ((am_ix v1 256).bind fun j2 => (((s.2.2.2.2.2.2 11 j2)).bind fun b5 => ((hl_Bo_beginDay_22 100000 v1 (s.2.2.2.1 902 b5) 0 s).bind fun q41 => (((q41.2.2.2.2.2.2 11 j2)).bind fun b48 => ((hl_Bo_beginDay_61 100000 v1 (q41.2.2.2.1 903 b48) 0 q41).bind fun q81 => (hl_Bo_beginDay_2 fu (v1 + 1) q81))))))
set_option maxHeartbeats 4000000 in
set_option maxRecDepth 100000 in
theorem Lc_Bo_beginDay_2 {Q : Option Value → am_H → Prop} (sh0 : List (Nat × Nat)) (h0 : am_H) : ∀ (fu : Nat) (v1 : Int32) (s : hS) (h : am_H), RH s h → hF h0 h → hE sh0 s.1 → ∀ q : hS, hl_Bo_beginDay_2 fu v1 s = some q → (∀ h' : am_H, RH q h' → hF h0 h' → hE sh0 q.1 → am_S am_Pr none 3 64 0 0 128 (95, [some (.ref 10), none, none, none, none], [], h', 0, 0) Q) → am_S am_Pr none 3 64 0 0 128 (2, [some (.ref 10), some (.int v1), none, none, none], [], h, 0, 0) Q := by
  intro fu
  induction fu with
  | zero => intro v1 s h hR f he  q hd; cases hd
  | succ fu ih =>
    intro v1 s h hR f he  q hd kk
    unfold hl_Bo_beginDay_2 at hd
    refine am_steps ok_Bo_beginDay 2 (x' := (4, [some (.ref 10), some (.int v1), none, none, none], [.ref 10, .int v1], h, 0, 0)) rfl (Nat.le_of_ble_eq_true rfl) (Nat.le_of_ble_eq_true rfl) ?_
    refine hr_get ok_Bo_beginDay rfl hR (kd := 4) (hs_k hR (a := 10) rfl) rfl (Nat.le_of_ble_eq_true rfl) (Nat.le_of_ble_eq_true rfl) (v := .int (s.2.1 401 10)) rfl (pc' := 7) rfl (Nat.le_of_ble_eq_true rfl) (Nat.le_of_ble_eq_true rfl) ?_
    refine am_steps ok_Bo_beginDay 1 (x' := (if ((s.2.1 401 10) : Int32) ≤ v1 then 95 else 10, [some (.ref 10), some (.int v1), none, none, none], [], h, 0, 0)) rfl (Nat.le_of_ble_eq_true rfl) (Nat.le_of_ble_eq_true rfl) ?_
    refine am_if (fun hc1 => ?_) (fun hc1 => ?_)
    · rw [if_pos hc1] at hd
      refine am_drop 1 ?_
      cases hd; exact kk h hR f he 
    · rw [if_neg hc1] at hd
      refine am_steps ok_Bo_beginDay 1 (x' := (11, [some (.ref 10), some (.int v1), none, none, none], [.ref 10], h, 0, 0)) rfl (Nat.le_of_ble_eq_true rfl) (Nat.le_of_ble_eq_true rfl) ?_
      refine hr_get ok_Bo_beginDay rfl hR (kd := 4) (hs_k hR (a := 10) rfl) rfl (Nat.le_of_ble_eq_true rfl) (Nat.le_of_ble_eq_true rfl) (v := .ref 11) (congrArg va_rf (hR.2.2.2.2.1 (400, 10, 11) (by decide))) (pc' := 14) rfl (Nat.le_of_ble_eq_true rfl) (Nat.le_of_ble_eq_true rfl) ?_
      refine am_steps ok_Bo_beginDay 1 (x' := (15, [some (.ref 10), some (.int v1), none, none, none], [.int v1, .ref 11], h, 0, 0)) rfl (Nat.le_of_ble_eq_true rfl) (Nat.le_of_ble_eq_true rfl) ?_
      obtain ⟨j2, hx3, hd4⟩ := Option.bind_eq_some_iff.mp hd; clear hd; have hd := hd4; clear hd4
      refine hr_aald ok_Bo_beginDay rfl hR (kd := 24) (hs_k hR (a := 11) rfl) (by decide) (hs_ln hR rfl) hx3 (pc' := 16) rfl (Nat.le_of_ble_eq_true rfl) (Nat.le_of_ble_eq_true rfl) ?_
      obtain ⟨b5, hb6, hd7⟩ := Option.bind_eq_some_iff.mp hd; clear hd; have hd := hd7; clear hd7
      have hk8 := (fun b hb => hR.2.2.2.1 _ _ (hK.ln (hs_k hR (a := 11) rfl)) _ b hb) b5 hb6
      rw [hb6]
      show am_S _ _ _ _ _ _ _ (16, [some (.ref 10), some (.int v1), none, none, none], [.ref b5], h, 0, 0) _
      refine hr_get ok_Bo_beginDay rfl hR (kd := 9) hk8 rfl (Nat.le_of_ble_eq_true rfl) (Nat.le_of_ble_eq_true rfl) (v := va_rf (s.2.2.2.1 902 b5)) rfl (pc' := 19) rfl (Nat.le_of_ble_eq_true rfl) (Nat.le_of_ble_eq_true rfl) ?_
      refine hr_astoren ok_Bo_beginDay rfl (Nat.le_of_ble_eq_true rfl) (lo' := [some (.ref 10), some (.int v1), some (va_rf (s.2.2.2.1 902 b5)), none, none]) rfl (pc' := 20) rfl (Nat.le_of_ble_eq_true rfl) (Nat.le_of_ble_eq_true rfl) ?_
      refine am_steps ok_Bo_beginDay 1 (x' := (21, [some (.ref 10), some (.int v1), some (va_rf (s.2.2.2.1 902 b5)), none, none], [.int 0], h, 0, 0)) rfl (Nat.le_of_ble_eq_true rfl) (Nat.le_of_ble_eq_true rfl) ?_
      refine hr_p1 ok_Bo_beginDay rfl (y := (22, [some (.ref 10), some (.int v1), some (va_rf (s.2.2.2.1 902 b5)), some (.int 0), none], [])) (by generalize (s.2.2.2.1 902 b5) = o; cases o <;> rfl) (Nat.le_of_ble_eq_true rfl) (Nat.le_of_ble_eq_true rfl) ?_
      obtain ⟨q41, hq42, hd43⟩ := Option.bind_eq_some_iff.mp hd; clear hd; have hd := hd43; clear hd43
      refine Lc_Bo_beginDay_22 s.1 h0 100000 v1 (s.2.2.2.1 902 b5) 0 s h hR f hE.rf (fun b hb => hR.2.2.1 902 _ b hb) q41 hq42 (fun h44 hR45 f46 e47 => ?_)
      show am_S _ _ _ _ _ _ _ (48, [some (.ref 10), some (.int v1), some (va_rf (s.2.2.2.1 902 b5)), none, none], [], h44, 0, 0) _
      refine am_steps ok_Bo_beginDay 1 (x' := (49, [some (.ref 10), some (.int v1), some (va_rf (s.2.2.2.1 902 b5)), none, none], [.ref 10], h44, 0, 0)) rfl (Nat.le_of_ble_eq_true rfl) (Nat.le_of_ble_eq_true rfl) ?_
      refine hr_get ok_Bo_beginDay rfl hR45 (kd := 4) (hs_k hR45 (a := 10) rfl) rfl (Nat.le_of_ble_eq_true rfl) (Nat.le_of_ble_eq_true rfl) (v := .ref 11) (congrArg va_rf (hR45.2.2.2.2.1 (400, 10, 11) (by decide))) (pc' := 52) rfl (Nat.le_of_ble_eq_true rfl) (Nat.le_of_ble_eq_true rfl) ?_
      refine am_steps ok_Bo_beginDay 1 (x' := (53, [some (.ref 10), some (.int v1), some (va_rf (s.2.2.2.1 902 b5)), none, none], [.int v1, .ref 11], h44, 0, 0)) rfl (Nat.le_of_ble_eq_true rfl) (Nat.le_of_ble_eq_true rfl) ?_
      refine hr_aald ok_Bo_beginDay rfl hR45 (kd := 24) (hs_k hR45 (a := 11) rfl) (by decide) (hs_ln hR45 rfl) hx3 (pc' := 54) rfl (Nat.le_of_ble_eq_true rfl) (Nat.le_of_ble_eq_true rfl) ?_
      obtain ⟨b48, hb49, hd50⟩ := Option.bind_eq_some_iff.mp hd; clear hd; have hd := hd50; clear hd50
      have hk51 := (fun b hb => hR45.2.2.2.1 _ _ (hK.ln (hs_k hR45 (a := 11) rfl)) _ b hb) b48 hb49
      rw [hb49]
      show am_S _ _ _ _ _ _ _ (54, [some (.ref 10), some (.int v1), some (va_rf (s.2.2.2.1 902 b5)), none, none], [.ref b48], h44, 0, 0) _
      refine hr_get ok_Bo_beginDay rfl hR45 (kd := 9) hk51 rfl (Nat.le_of_ble_eq_true rfl) (Nat.le_of_ble_eq_true rfl) (v := va_rf (q41.2.2.2.1 903 b48)) rfl (pc' := 57) rfl (Nat.le_of_ble_eq_true rfl) (Nat.le_of_ble_eq_true rfl) ?_
      refine hr_astoren ok_Bo_beginDay rfl (Nat.le_of_ble_eq_true rfl) (lo' := [some (.ref 10), some (.int v1), some (va_rf (s.2.2.2.1 902 b5)), some (va_rf (q41.2.2.2.1 903 b48)), none]) (by generalize (s.2.2.2.1 902 b5) = o; cases o <;> rfl) (pc' := 58) rfl (Nat.le_of_ble_eq_true rfl) (Nat.le_of_ble_eq_true rfl) ?_
      refine am_steps ok_Bo_beginDay 1 (x' := (59, [some (.ref 10), some (.int v1), some (va_rf (s.2.2.2.1 902 b5)), some (va_rf (q41.2.2.2.1 903 b48)), none], [.int 0], h44, 0, 0)) rfl (Nat.le_of_ble_eq_true rfl) (Nat.le_of_ble_eq_true rfl) ?_
      refine hr_p1 ok_Bo_beginDay rfl (y := (61, [some (.ref 10), some (.int v1), some (va_rf (s.2.2.2.1 902 b5)), some (va_rf (q41.2.2.2.1 903 b48)), some (.int 0)], [])) (by generalize (q41.2.2.2.1 903 b48) = o; cases o <;> rfl) (Nat.le_of_ble_eq_true rfl) (Nat.le_of_ble_eq_true rfl) ?_
      refine am_drop 2 ?_
      obtain ⟨q81, hq82, hd83⟩ := Option.bind_eq_some_iff.mp hd; clear hd; have hd := hd83; clear hd83
      refine Lc_Bo_beginDay_61 q41.1 h0 100000 v1 (q41.2.2.2.1 903 b48) 0 q41 h44 hR45 f46 hE.rf (fun b hb => hR45.2.2.1 903 _ b hb) q81 hq82 (fun h84 hR85 f86 e87 => ?_)
      show am_S _ _ _ _ _ _ _ (89, [some (.ref 10), some (.int v1), none, some (va_rf (q41.2.2.2.1 903 b48)), none], [], h84, 0, 0) _
      refine am_steps ok_Bo_beginDay 2 (x' := (2, [some (.ref 10), some (.int (v1 + 1)), none, some (va_rf (q41.2.2.2.1 903 b48)), none], [], h84, 0, 0)) rfl (Nat.le_of_ble_eq_true rfl) (Nat.le_of_ble_eq_true rfl) ?_
      refine am_drop 3 ?_
      exact ih (v1 + 1) q81 h84 hR85 f86 ((he.tr e47).tr e87)  q hd kk
def h_Bo_beginDay  (S : hS) : Option (hS) := (hl_Bo_beginDay_2 100000 0 S).bind fun q88 => (some q88)
set_option maxHeartbeats 4000000 in
set_option maxRecDepth 100000 in
theorem c_Bo_beginDay  (S : hS) (h0 : am_H) (hR : RH S h0)  (q : hS) (hd : h_Bo_beginDay  S = some q) : am_Me am_Pr none 3 64 0 0 128 [.ref 10] h0 (hQv q S.1 h0) := by
  refine am_enter (d := hd_Bo_beginDay) rfl (by decide +kernel) (Nat.le_of_ble_eq_true rfl) ?_
  show am_S _ _ _ _ _ _ _ (0, [some (.ref 10), none, none, none, none], [], h0, 0, 0) _
  unfold h_Bo_beginDay at hd
  refine am_steps ok_Bo_beginDay 2 (x' := (2, [some (.ref 10), some (.int 0), none, none, none], [], h0, 0, 0)) rfl (Nat.le_of_ble_eq_true rfl) (Nat.le_of_ble_eq_true rfl) ?_
  obtain ⟨q88, hq89, hd90⟩ := Option.bind_eq_some_iff.mp hd; clear hd; have hd := hd90; clear hd90
  refine Lc_Bo_beginDay_2 S.1 h0 100000 0 S h0 hR hF.rf hE.rf  q88 hq89 (fun h91 hR92 f93 e94 => ?_)
  show am_S _ _ _ _ _ _ _ (95, [some (.ref 10), none, none, none, none], [], h91, 0, 0) _
  cases hd; exact am_ret ok_Bo_beginDay rfl (Nat.le_of_ble_eq_true rfl) (Nat.le_of_ble_eq_true rfl) ⟨rfl, hR92, f93, (hE.rf.tr e94)⟩
def h_De_beginDay  (S : hS) : Option (hS) := (h_AL14_clear  (hpI (hpI S 504 20 0) 503 20 ((S.2.1 503 20) + 1))).bind fun q9 => ((h_Bo_beginDay  q9).bind fun q20 => (some q20))
set_option maxHeartbeats 4000000 in
set_option maxRecDepth 100000 in
theorem c_De_beginDay  (S : hS) (h0 : am_H) (hR : RH S h0)  (q : hS) (hd : h_De_beginDay  S = some q) : am_Me am_Pr none 4 88 0 0 161 [.ref 20] h0 (hQv q S.1 h0) := by
  refine am_enter (d := hd_De_beginDay) rfl (by decide +kernel) (Nat.le_of_ble_eq_true rfl) ?_
  show am_S _ _ _ _ _ _ _ (0, [some (.ref 20)], [], h0, 0, 0) _
  unfold h_De_beginDay at hd
  refine am_steps ok_De_beginDay 2 (x' := (2, [some (.ref 20)], [.int 0, .ref 20], h0, 0, 0)) rfl (Nat.le_of_ble_eq_true rfl) (Nat.le_of_ble_eq_true rfl) ?_
  refine hr_put ok_De_beginDay rfl hR (kd := 5) (hs_k hR (a := 20) rfl) rfl (Nat.le_of_ble_eq_true rfl) (Nat.le_of_ble_eq_true rfl) rfl (S' := (hpI S 504 20 0)) rfl (hWT.up hR.2.2 rfl rfl rfl) (pc' := 5) rfl (Nat.le_of_ble_eq_true rfl) (Nat.le_of_ble_eq_true rfl) (fun h1 hR2 g3 => ?_)
  have f4 := hF.tr hF.rf g3
  refine am_steps ok_De_beginDay 2 (x' := (7, [some (.ref 20)], [.ref 20, .ref 20], h1, 0, 0)) rfl (Nat.le_of_ble_eq_true rfl) (Nat.le_of_ble_eq_true rfl) ?_
  refine hr_get ok_De_beginDay rfl hR2 (kd := 5) (hs_k hR2 (a := 20) rfl) rfl (Nat.le_of_ble_eq_true rfl) (Nat.le_of_ble_eq_true rfl) (v := .int (S.2.1 503 20)) rfl (pc' := 10) rfl (Nat.le_of_ble_eq_true rfl) (Nat.le_of_ble_eq_true rfl) ?_
  refine am_steps ok_De_beginDay 2 (x' := (12, [some (.ref 20)], [.int ((S.2.1 503 20) + 1), .ref 20], h1, 0, 0)) rfl (Nat.le_of_ble_eq_true rfl) (Nat.le_of_ble_eq_true rfl) ?_
  refine hr_put ok_De_beginDay rfl hR2 (kd := 5) (hs_k hR2 (a := 20) rfl) rfl (Nat.le_of_ble_eq_true rfl) (Nat.le_of_ble_eq_true rfl) rfl (S' := (hpI (hpI S 504 20 0) 503 20 ((S.2.1 503 20) + 1))) rfl (hWT.up hR2.2.2 rfl rfl rfl) (pc' := 15) rfl (Nat.le_of_ble_eq_true rfl) (Nat.le_of_ble_eq_true rfl) (fun h5 hR6 g7 => ?_)
  have f8 := hF.tr f4 g7
  refine am_steps ok_De_beginDay 1 (x' := (16, [some (.ref 20)], [.ref 20], h5, 0, 0)) rfl (Nat.le_of_ble_eq_true rfl) (Nat.le_of_ble_eq_true rfl) ?_
  refine hr_get ok_De_beginDay rfl hR6 (kd := 5) (hs_k hR6 (a := 20) rfl) rfl (Nat.le_of_ble_eq_true rfl) (Nat.le_of_ble_eq_true rfl) (v := .ref 21) (congrArg va_rf (hR6.2.2.2.2.1 (502, 20, 21) (by decide))) (pc' := 19) rfl (Nat.le_of_ble_eq_true rfl) (Nat.le_of_ble_eq_true rfl) ?_
  obtain ⟨q9, hq10, hd11⟩ := Option.bind_eq_some_iff.mp hd; clear hd; have hd := hd11; clear hd11
  refine ar_cv ok_De_beginDay hk_AL_clear rfl rfl (As := []) (ad := 21) (rest := []) rfl rfl (hR6.ob (hs_k hR6 (a := 21) rfl) (Nat.le_of_ble_eq_true rfl)) (Nat.le_of_ble_eq_true rfl) (c_AL14_clear  (hpI (hpI S 504 20 0) 503 20 ((S.2.1 503 20) + 1)) h5 hR6  q9 hq10) (Nat.le_of_ble_eq_true rfl) (Nat.le_of_ble_eq_true rfl) (Nat.le_of_ble_eq_true rfl) (Nat.le_of_ble_eq_true rfl) (pc' := 22) rfl (fun r12 h14 z13 => ?_)
  obtain ⟨rfl, hR16, g17, e18⟩ := z13
  have f19 := hF.tr f8 g17
  show am_S _ _ _ _ _ _ _ (22, [some (.ref 20)], [], h14, 0, 0) _
  refine am_steps ok_De_beginDay 1 (x' := (23, [some (.ref 20)], [.ref 20], h14, 0, 0)) rfl (Nat.le_of_ble_eq_true rfl) (Nat.le_of_ble_eq_true rfl) ?_
  refine hr_get ok_De_beginDay rfl hR16 (kd := 5) (hs_k hR16 (a := 20) rfl) rfl (Nat.le_of_ble_eq_true rfl) (Nat.le_of_ble_eq_true rfl) (v := .ref 10) (congrArg va_rf (hR16.2.2.2.2.1 (500, 20, 10) (by decide))) (pc' := 26) rfl (Nat.le_of_ble_eq_true rfl) (Nat.le_of_ble_eq_true rfl) ?_
  obtain ⟨q20, hq21, hd22⟩ := Option.bind_eq_some_iff.mp hd; clear hd; have hd := hd22; clear hd22
  refine ar_cv ok_De_beginDay hk_Bo_beginDay rfl rfl (As := []) (ad := 10) (rest := []) rfl rfl (hR16.ob (hs_k hR16 (a := 10) rfl) (Nat.le_of_ble_eq_true rfl)) (Nat.le_of_ble_eq_true rfl) (c_Bo_beginDay  q9 h14 hR16  q20 hq21) (Nat.le_of_ble_eq_true rfl) (Nat.le_of_ble_eq_true rfl) (Nat.le_of_ble_eq_true rfl) (Nat.le_of_ble_eq_true rfl) (pc' := 29) rfl (fun r23 h25 z24 => ?_)
  obtain ⟨rfl, hR27, g28, e29⟩ := z24
  have f30 := hF.tr f19 g28
  show am_S _ _ _ _ _ _ _ (29, [some (.ref 20)], [], h25, 0, 0) _
  cases hd; exact am_ret ok_De_beginDay rfl (Nat.le_of_ble_eq_true rfl) (Nat.le_of_ble_eq_true rfl) ⟨rfl, hR27, f30, ((hE.rf.tr e18).tr e29)⟩
def hl_Qu_sendAllBack_2 : Nat → Int32 → hS → Option (hS)
  | 0, _, _ => none
  | fu + 1, v1, s => if ((s.2.1 1101 16) : Int32) ≤ v1 then (some s) else ((am_ix v1 250).bind fun j2 => (((s.2.2.2.2.2.2 17 j2)).bind fun b5 => ((h_Qu_end b5 3 s).bind fun q9 => (hl_Qu_sendAllBack_2 fu (v1 + 1) q9))))
set_option maxHeartbeats 4000000 in
set_option maxRecDepth 100000 in
theorem Lc_Qu_sendAllBack_2 {Q : Option Value → am_H → Prop} (sh0 : List (Nat × Nat)) (h0 : am_H) : ∀ (fu : Nat) (v1 : Int32) (s : hS) (h : am_H), RH s h → hF h0 h → hE sh0 s.1 → ∀ q : hS, hl_Qu_sendAllBack_2 fu v1 s = some q → (∀ h' : am_H, RH q h' → hF h0 h' → hE sh0 q.1 → am_S am_Pr none 1 22 0 0 223 (27, [some (.ref 16), none], [], h', 0, 0) Q) → am_S am_Pr none 1 22 0 0 223 (2, [some (.ref 16), some (.int v1)], [], h, 0, 0) Q := by
  intro fu
  induction fu with
  | zero => intro v1 s h hR f he  q hd; cases hd
  | succ fu ih =>
    intro v1 s h hR f he  q hd kk
    unfold hl_Qu_sendAllBack_2 at hd
    refine am_steps ok_Qu_sendAllBack 2 (x' := (4, [some (.ref 16), some (.int v1)], [.ref 16, .int v1], h, 0, 0)) rfl (Nat.le_of_ble_eq_true rfl) (Nat.le_of_ble_eq_true rfl) ?_
    refine hr_get ok_Qu_sendAllBack rfl hR (kd := 11) (hs_k hR (a := 16) rfl) rfl (Nat.le_of_ble_eq_true rfl) (Nat.le_of_ble_eq_true rfl) (v := .int (s.2.1 1101 16)) rfl (pc' := 7) rfl (Nat.le_of_ble_eq_true rfl) (Nat.le_of_ble_eq_true rfl) ?_
    refine am_steps ok_Qu_sendAllBack 1 (x' := (if ((s.2.1 1101 16) : Int32) ≤ v1 then 27 else 10, [some (.ref 16), some (.int v1)], [], h, 0, 0)) rfl (Nat.le_of_ble_eq_true rfl) (Nat.le_of_ble_eq_true rfl) ?_
    refine am_if (fun hc1 => ?_) (fun hc1 => ?_)
    · rw [if_pos hc1] at hd
      refine am_drop 1 ?_
      cases hd; exact kk h hR f he 
    · rw [if_neg hc1] at hd
      refine am_steps ok_Qu_sendAllBack 2 (x' := (12, [some (.ref 16), some (.int v1)], [.ref 16, .ref 16], h, 0, 0)) rfl (Nat.le_of_ble_eq_true rfl) (Nat.le_of_ble_eq_true rfl) ?_
      refine hr_get ok_Qu_sendAllBack rfl hR (kd := 11) (hs_k hR (a := 16) rfl) rfl (Nat.le_of_ble_eq_true rfl) (Nat.le_of_ble_eq_true rfl) (v := .ref 17) (congrArg va_rf (hR.2.2.2.2.1 (1100, 16, 17) (by decide))) (pc' := 15) rfl (Nat.le_of_ble_eq_true rfl) (Nat.le_of_ble_eq_true rfl) ?_
      refine am_steps ok_Qu_sendAllBack 1 (x' := (16, [some (.ref 16), some (.int v1)], [.int v1, .ref 17, .ref 16], h, 0, 0)) rfl (Nat.le_of_ble_eq_true rfl) (Nat.le_of_ble_eq_true rfl) ?_
      obtain ⟨j2, hx3, hd4⟩ := Option.bind_eq_some_iff.mp hd; clear hd; have hd := hd4; clear hd4
      refine hr_aald ok_Qu_sendAllBack rfl hR (kd := 27) (hs_k hR (a := 17) rfl) (by decide) (hs_ln hR rfl) hx3 (pc' := 17) rfl (Nat.le_of_ble_eq_true rfl) (Nat.le_of_ble_eq_true rfl) ?_
      refine am_steps ok_Qu_sendAllBack 1 (x' := (18, [some (.ref 16), some (.int v1)], [.int 3, va_rf (s.2.2.2.2.2.2 17 j2), .ref 16], h, 0, 0)) rfl (Nat.le_of_ble_eq_true rfl) (Nat.le_of_ble_eq_true rfl) ?_
      obtain ⟨b5, hb6, hd7⟩ := Option.bind_eq_some_iff.mp hd; clear hd; have hd := hd7; clear hd7
      have hk8 := (fun b hb => hR.2.2.2.1 _ _ (hK.ln (hs_k hR (a := 17) rfl)) _ b hb) b5 hb6
      rw [hb6]
      show am_S _ _ _ _ _ _ _ (18, [some (.ref 16), some (.int v1)], [.int 3, .ref b5, .ref 16], h, 0, 0) _
      obtain ⟨q9, hq10, hd11⟩ := Option.bind_eq_some_iff.mp hd; clear hd; have hd := hd11; clear hd11
      refine ar_cv ok_Qu_sendAllBack hk_Qu_end rfl rfl (As := [.ref b5, .int 3]) (ad := 16) (rest := []) rfl rfl (hR.ob (hs_k hR (a := 16) rfl) (Nat.le_of_ble_eq_true rfl)) (Nat.le_of_ble_eq_true rfl) (c_Qu_end b5 3 s h hR hk8 q9 hq10) (Nat.le_of_ble_eq_true rfl) (Nat.le_of_ble_eq_true rfl) (Nat.le_of_ble_eq_true rfl) (Nat.le_of_ble_eq_true rfl) (pc' := 21) rfl (fun r12 h14 z13 => ?_)
      obtain ⟨rfl, hR16, g17, e18⟩ := z13
      have f19 := hF.tr f g17
      show am_S _ _ _ _ _ _ _ (21, [some (.ref 16), some (.int v1)], [], h14, 0, 0) _
      refine am_steps ok_Qu_sendAllBack 2 (x' := (2, [some (.ref 16), some (.int (v1 + 1))], [], h14, 0, 0)) rfl (Nat.le_of_ble_eq_true rfl) (Nat.le_of_ble_eq_true rfl) ?_
      exact ih (v1 + 1) q9 h14 hR16 f19 (he.tr e18)  q hd kk
def hl_Qu_sendAllBack_29 : Nat → Int32 → hS → Option (hS)
  | 0, _, _ => none
  | fu + 1, v1, s => if ((s.2.1 1103 16) : Int32) ≤ v1 then (some s) else ((am_ix v1 250).bind fun j28 => (((s.2.2.2.2.2.2 18 j28)).bind fun b31 => ((h_Qu_end b31 3 s).bind fun q35 => (hl_Qu_sendAllBack_29 fu (v1 + 1) q35))))
set_option maxHeartbeats 4000000 in
set_option maxRecDepth 100000 in
theorem Lc_Qu_sendAllBack_29 {Q : Option Value → am_H → Prop} (sh0 : List (Nat × Nat)) (h0 : am_H) : ∀ (fu : Nat) (v1 : Int32) (s : hS) (h : am_H), RH s h → hF h0 h → hE sh0 s.1 → ∀ q : hS, hl_Qu_sendAllBack_29 fu v1 s = some q → (∀ h' : am_H, RH q h' → hF h0 h' → hE sh0 q.1 → am_S am_Pr none 1 22 0 0 223 (54, [some (.ref 16), none], [], h', 0, 0) Q) → am_S am_Pr none 1 22 0 0 223 (29, [some (.ref 16), some (.int v1)], [], h, 0, 0) Q := by
  intro fu
  induction fu with
  | zero => intro v1 s h hR f he  q hd; cases hd
  | succ fu ih =>
    intro v1 s h hR f he  q hd kk
    unfold hl_Qu_sendAllBack_29 at hd
    refine am_steps ok_Qu_sendAllBack 2 (x' := (31, [some (.ref 16), some (.int v1)], [.ref 16, .int v1], h, 0, 0)) rfl (Nat.le_of_ble_eq_true rfl) (Nat.le_of_ble_eq_true rfl) ?_
    refine hr_get ok_Qu_sendAllBack rfl hR (kd := 11) (hs_k hR (a := 16) rfl) rfl (Nat.le_of_ble_eq_true rfl) (Nat.le_of_ble_eq_true rfl) (v := .int (s.2.1 1103 16)) rfl (pc' := 34) rfl (Nat.le_of_ble_eq_true rfl) (Nat.le_of_ble_eq_true rfl) ?_
    refine am_steps ok_Qu_sendAllBack 1 (x' := (if ((s.2.1 1103 16) : Int32) ≤ v1 then 54 else 37, [some (.ref 16), some (.int v1)], [], h, 0, 0)) rfl (Nat.le_of_ble_eq_true rfl) (Nat.le_of_ble_eq_true rfl) ?_
    refine am_if (fun hc27 => ?_) (fun hc27 => ?_)
    · rw [if_pos hc27] at hd
      refine am_drop 1 ?_
      cases hd; exact kk h hR f he 
    · rw [if_neg hc27] at hd
      refine am_steps ok_Qu_sendAllBack 2 (x' := (39, [some (.ref 16), some (.int v1)], [.ref 16, .ref 16], h, 0, 0)) rfl (Nat.le_of_ble_eq_true rfl) (Nat.le_of_ble_eq_true rfl) ?_
      refine hr_get ok_Qu_sendAllBack rfl hR (kd := 11) (hs_k hR (a := 16) rfl) rfl (Nat.le_of_ble_eq_true rfl) (Nat.le_of_ble_eq_true rfl) (v := .ref 18) (congrArg va_rf (hR.2.2.2.2.1 (1102, 16, 18) (by decide))) (pc' := 42) rfl (Nat.le_of_ble_eq_true rfl) (Nat.le_of_ble_eq_true rfl) ?_
      refine am_steps ok_Qu_sendAllBack 1 (x' := (43, [some (.ref 16), some (.int v1)], [.int v1, .ref 18, .ref 16], h, 0, 0)) rfl (Nat.le_of_ble_eq_true rfl) (Nat.le_of_ble_eq_true rfl) ?_
      obtain ⟨j28, hx29, hd30⟩ := Option.bind_eq_some_iff.mp hd; clear hd; have hd := hd30; clear hd30
      refine hr_aald ok_Qu_sendAllBack rfl hR (kd := 27) (hs_k hR (a := 18) rfl) (by decide) (hs_ln hR rfl) hx29 (pc' := 44) rfl (Nat.le_of_ble_eq_true rfl) (Nat.le_of_ble_eq_true rfl) ?_
      refine am_steps ok_Qu_sendAllBack 1 (x' := (45, [some (.ref 16), some (.int v1)], [.int 3, va_rf (s.2.2.2.2.2.2 18 j28), .ref 16], h, 0, 0)) rfl (Nat.le_of_ble_eq_true rfl) (Nat.le_of_ble_eq_true rfl) ?_
      obtain ⟨b31, hb32, hd33⟩ := Option.bind_eq_some_iff.mp hd; clear hd; have hd := hd33; clear hd33
      have hk34 := (fun b hb => hR.2.2.2.1 _ _ (hK.ln (hs_k hR (a := 18) rfl)) _ b hb) b31 hb32
      rw [hb32]
      show am_S _ _ _ _ _ _ _ (45, [some (.ref 16), some (.int v1)], [.int 3, .ref b31, .ref 16], h, 0, 0) _
      obtain ⟨q35, hq36, hd37⟩ := Option.bind_eq_some_iff.mp hd; clear hd; have hd := hd37; clear hd37
      refine ar_cv ok_Qu_sendAllBack hk_Qu_end rfl rfl (As := [.ref b31, .int 3]) (ad := 16) (rest := []) rfl rfl (hR.ob (hs_k hR (a := 16) rfl) (Nat.le_of_ble_eq_true rfl)) (Nat.le_of_ble_eq_true rfl) (c_Qu_end b31 3 s h hR hk34 q35 hq36) (Nat.le_of_ble_eq_true rfl) (Nat.le_of_ble_eq_true rfl) (Nat.le_of_ble_eq_true rfl) (Nat.le_of_ble_eq_true rfl) (pc' := 48) rfl (fun r38 h40 z39 => ?_)
      obtain ⟨rfl, hR42, g43, e44⟩ := z39
      have f45 := hF.tr f g43
      show am_S _ _ _ _ _ _ _ (48, [some (.ref 16), some (.int v1)], [], h40, 0, 0) _
      refine am_steps ok_Qu_sendAllBack 2 (x' := (29, [some (.ref 16), some (.int (v1 + 1))], [], h40, 0, 0)) rfl (Nat.le_of_ble_eq_true rfl) (Nat.le_of_ble_eq_true rfl) ?_
      exact ih (v1 + 1) q35 h40 hR42 f45 (he.tr e44)  q hd kk
def h_Qu_sendAllBack  (S : hS) : Option (hS) := (hl_Qu_sendAllBack_2 100000 0 S).bind fun q20 => ((hl_Qu_sendAllBack_29 100000 0 q20).bind fun q46 => (some (hpI (hpI q46 1101 16 0) 1103 16 0)))
set_option maxHeartbeats 4000000 in
set_option maxRecDepth 100000 in
theorem c_Qu_sendAllBack  (S : hS) (h0 : am_H) (hR : RH S h0)  (q : hS) (hd : h_Qu_sendAllBack  S = some q) : am_Me am_Pr none 1 22 0 0 223 [.ref 16] h0 (hQv q S.1 h0) := by
  refine am_enter (d := hd_Qu_sendAllBack) rfl (by decide +kernel) (Nat.le_of_ble_eq_true rfl) ?_
  show am_S _ _ _ _ _ _ _ (0, [some (.ref 16), none], [], h0, 0, 0) _
  unfold h_Qu_sendAllBack at hd
  refine am_steps ok_Qu_sendAllBack 2 (x' := (2, [some (.ref 16), some (.int 0)], [], h0, 0, 0)) rfl (Nat.le_of_ble_eq_true rfl) (Nat.le_of_ble_eq_true rfl) ?_
  obtain ⟨q20, hq21, hd22⟩ := Option.bind_eq_some_iff.mp hd; clear hd; have hd := hd22; clear hd22
  refine Lc_Qu_sendAllBack_2 S.1 h0 100000 0 S h0 hR hF.rf hE.rf  q20 hq21 (fun h23 hR24 f25 e26 => ?_)
  show am_S _ _ _ _ _ _ _ (27, [some (.ref 16), none], [], h23, 0, 0) _
  refine am_steps ok_Qu_sendAllBack 2 (x' := (29, [some (.ref 16), some (.int 0)], [], h23, 0, 0)) rfl (Nat.le_of_ble_eq_true rfl) (Nat.le_of_ble_eq_true rfl) ?_
  obtain ⟨q46, hq47, hd48⟩ := Option.bind_eq_some_iff.mp hd; clear hd; have hd := hd48; clear hd48
  refine Lc_Qu_sendAllBack_29 q20.1 h0 100000 0 q20 h23 hR24 f25 hE.rf  q46 hq47 (fun h49 hR50 f51 e52 => ?_)
  show am_S _ _ _ _ _ _ _ (54, [some (.ref 16), none], [], h49, 0, 0) _
  refine am_steps ok_Qu_sendAllBack 2 (x' := (56, [some (.ref 16), none], [.int 0, .ref 16], h49, 0, 0)) rfl (Nat.le_of_ble_eq_true rfl) (Nat.le_of_ble_eq_true rfl) ?_
  refine hr_put ok_Qu_sendAllBack rfl hR50 (kd := 11) (hs_k hR50 (a := 16) rfl) rfl (Nat.le_of_ble_eq_true rfl) (Nat.le_of_ble_eq_true rfl) rfl (S' := (hpI q46 1101 16 0)) rfl (hWT.up hR50.2.2 rfl rfl rfl) (pc' := 59) rfl (Nat.le_of_ble_eq_true rfl) (Nat.le_of_ble_eq_true rfl) (fun h53 hR54 g55 => ?_)
  have f56 := hF.tr f51 g55
  refine am_steps ok_Qu_sendAllBack 2 (x' := (61, [some (.ref 16), none], [.int 0, .ref 16], h53, 0, 0)) rfl (Nat.le_of_ble_eq_true rfl) (Nat.le_of_ble_eq_true rfl) ?_
  refine hr_put ok_Qu_sendAllBack rfl hR54 (kd := 11) (hs_k hR54 (a := 16) rfl) rfl (Nat.le_of_ble_eq_true rfl) (Nat.le_of_ble_eq_true rfl) rfl (S' := (hpI (hpI q46 1101 16 0) 1103 16 0)) rfl (hWT.up hR54.2.2 rfl rfl rfl) (pc' := 64) rfl (Nat.le_of_ble_eq_true rfl) (Nat.le_of_ble_eq_true rfl) (fun h57 hR58 g59 => ?_)
  have f60 := hF.tr f56 g59
  cases hd; exact am_ret ok_Qu_sendAllBack rfl (Nat.le_of_ble_eq_true rfl) (Nat.le_of_ble_eq_true rfl) ⟨rfl, hR58, f60, ((hE.rf.tr e26).tr e52)⟩
def hl_De_letPass_4 : Nat → Int32 → Int32 → Int32 → hS → Option (Int32 × hS)
  | 0, _, _, _, _ => none
  | fu + 1, v1, v2, v3, s => if (v1 : Int32) ≤ v3 then (some (v2, s)) else ((if (((s.2.1 504 20) + 1) : Int32) < 1000 then (if (((s.2.1 504 20) + 1) : Int32) < 150 then (some (v2, (hpI s 504 20 ((s.2.1 504 20) + 1)))) else (if (900 : Int32) < ((s.2.1 504 20) + 1) then (some (v2, (hpI s 504 20 ((s.2.1 504 20) + 1)))) else (if ¬ ((((s.2.1 504 20) + 1) - ((s.2.1 504 20) + 1) / 50 * 50) : Int32) = 0 then (some (v2, (hpI s 504 20 ((s.2.1 504 20) + 1)))) else ((h_Qu_resolve  (hpI s 504 20 ((s.2.1 504 20) + 1))).bind fun q38 => ((h_Qu_settleAllThatCan  q38).bind fun q49 => (some (v2, q49))))))) else ((h_De_beginDay  (hpI s 504 20 ((s.2.1 504 20) + 1))).bind fun q60 => (some (1, q60)))).bind fun (u6 : Int32 × hS) => ((if ¬ ((u6.2.2.1 504 20) : Int32) = 900 then (some u6.2) else ((h_Qu_sendAllBack  u6.2).bind fun q23 => (some q23))).bind fun (u14 : hS) => (hl_De_letPass_4 fu v1 u6.1 (v3 + 1) u14)))
set_option maxHeartbeats 4000000 in
set_option maxRecDepth 100000 in
theorem Lc_De_letPass_4 {Q : Option Value → am_H → Prop} (sh0 : List (Nat × Nat)) (h0 : am_H) : ∀ (fu : Nat) (v1 : Int32) (v2 : Int32) (v3 : Int32) (s : hS) (h : am_H), RH s h → hF h0 h → hE sh0 s.1 → ∀ q : Int32 × hS, hl_De_letPass_4 fu v1 v2 v3 s = some q → (∀ h' : am_H, RH q.2 h' → hF h0 h' → hE sh0 q.2.1 → am_S am_Pr none 5 110 0 0 160 (105, [some (.ref 20), some (.int v1), some (.int q.1), none], [], h', 0, 0) Q) → am_S am_Pr none 5 110 0 0 160 (4, [some (.ref 20), some (.int v1), some (.int v2), some (.int v3)], [], h, 0, 0) Q := by
  intro fu
  induction fu with
  | zero => intro v1 v2 v3 s h hR f he  q hd; cases hd
  | succ fu ih =>
    intro v1 v2 v3 s h hR f he  q hd kk
    unfold hl_De_letPass_4 at hd
    refine am_steps ok_De_letPass 3 (x' := (if (v1 : Int32) ≤ v3 then 105 else 9, [some (.ref 20), some (.int v1), some (.int v2), some (.int v3)], [], h, 0, 0)) rfl (Nat.le_of_ble_eq_true rfl) (Nat.le_of_ble_eq_true rfl) ?_
    refine am_if (fun hc1 => ?_) (fun hc1 => ?_)
    · rw [if_pos hc1] at hd
      refine am_drop 3 ?_
      cases hd; exact kk h hR f he 
    · rw [if_neg hc1] at hd
      refine am_steps ok_De_letPass 2 (x' := (11, [some (.ref 20), some (.int v1), some (.int v2), some (.int v3)], [.ref 20, .ref 20], h, 0, 0)) rfl (Nat.le_of_ble_eq_true rfl) (Nat.le_of_ble_eq_true rfl) ?_
      refine hr_get ok_De_letPass rfl hR (kd := 5) (hs_k hR (a := 20) rfl) rfl (Nat.le_of_ble_eq_true rfl) (Nat.le_of_ble_eq_true rfl) (v := .int (s.2.1 504 20)) rfl (pc' := 14) rfl (Nat.le_of_ble_eq_true rfl) (Nat.le_of_ble_eq_true rfl) ?_
      refine am_steps ok_De_letPass 2 (x' := (16, [some (.ref 20), some (.int v1), some (.int v2), some (.int v3)], [.int ((s.2.1 504 20) + 1), .ref 20], h, 0, 0)) rfl (Nat.le_of_ble_eq_true rfl) (Nat.le_of_ble_eq_true rfl) ?_
      refine hr_put ok_De_letPass rfl hR (kd := 5) (hs_k hR (a := 20) rfl) rfl (Nat.le_of_ble_eq_true rfl) (Nat.le_of_ble_eq_true rfl) rfl (S' := (hpI s 504 20 ((s.2.1 504 20) + 1))) rfl (hWT.up hR.2.2 rfl rfl rfl) (pc' := 19) rfl (Nat.le_of_ble_eq_true rfl) (Nat.le_of_ble_eq_true rfl) (fun h2 hR3 g4 => ?_)
      have f5 := hF.tr f g4
      refine am_steps ok_De_letPass 1 (x' := (20, [some (.ref 20), some (.int v1), some (.int v2), some (.int v3)], [.ref 20], h2, 0, 0)) rfl (Nat.le_of_ble_eq_true rfl) (Nat.le_of_ble_eq_true rfl) ?_
      refine hr_get ok_De_letPass rfl hR3 (kd := 5) (hs_k hR3 (a := 20) rfl) rfl (Nat.le_of_ble_eq_true rfl) (Nat.le_of_ble_eq_true rfl) (v := .int ((s.2.1 504 20) + 1)) rfl (pc' := 23) rfl (Nat.le_of_ble_eq_true rfl) (Nat.le_of_ble_eq_true rfl) ?_
      refine am_steps ok_De_letPass 2 (x' := (if (((s.2.1 504 20) + 1) : Int32) < 1000 then 38 else 29, [some (.ref 20), some (.int v1), some (.int v2), some (.int v3)], [], h2, 0, 0)) rfl (Nat.le_of_ble_eq_true rfl) (Nat.le_of_ble_eq_true rfl) ?_
      obtain ⟨u6, hA8, hB9⟩ := Option.bind_eq_some_iff.mp hd; clear hd
      have K7 : ∀ h' : am_H, RH u6.2 h' → hF h0 h' → hE s.1 u6.2.1 → am_S am_Pr none 5 110 0 0 160 (82, [some (.ref 20), some (.int v1), some (.int u6.1), some (.int v3)], [], h', 0, 0) Q := by
        have hd := hB9
        intro h10 hR11 f12 e13
        refine am_steps ok_De_letPass 1 (x' := (83, [some (.ref 20), some (.int v1), some (.int u6.1), some (.int v3)], [.ref 20], h10, 0, 0)) rfl (Nat.le_of_ble_eq_true rfl) (Nat.le_of_ble_eq_true rfl) ?_
        refine hr_get ok_De_letPass rfl hR11 (kd := 5) (hs_k hR11 (a := 20) rfl) rfl (Nat.le_of_ble_eq_true rfl) (Nat.le_of_ble_eq_true rfl) (v := .int (u6.2.2.1 504 20)) rfl (pc' := 86) rfl (Nat.le_of_ble_eq_true rfl) (Nat.le_of_ble_eq_true rfl) ?_
        refine am_steps ok_De_letPass 2 (x' := (if ¬ ((u6.2.2.1 504 20) : Int32) = 900 then 99 else 92, [some (.ref 20), some (.int v1), some (.int u6.1), some (.int v3)], [], h10, 0, 0)) rfl (Nat.le_of_ble_eq_true rfl) (Nat.le_of_ble_eq_true rfl) ?_
        obtain ⟨u14, hA16, hB17⟩ := Option.bind_eq_some_iff.mp hd; clear hd
        have K15 : ∀ h' : am_H, RH u14 h' → hF h0 h' → hE u6.2.1 u14.1 → am_S am_Pr none 5 110 0 0 160 (99, [some (.ref 20), some (.int v1), some (.int u6.1), some (.int v3)], [], h', 0, 0) Q := by
          have hd := hB17
          intro h18 hR19 f20 e21
          refine am_steps ok_De_letPass 2 (x' := (4, [some (.ref 20), some (.int v1), some (.int u6.1), some (.int (v3 + 1))], [], h18, 0, 0)) rfl (Nat.le_of_ble_eq_true rfl) (Nat.le_of_ble_eq_true rfl) ?_
          exact ih v1 u6.1 (v3 + 1) u14 h18 hR19 f20 ((he.tr e13).tr e21)  q hd kk
        clear hB17; have hd := hA16; clear hA16
        refine am_if (fun hc22 => ?_) (fun hc22 => ?_)
        · rw [if_pos hc22] at hd
          cases hd; exact K15 h10 hR11 f12 hE.rf
        · rw [if_neg hc22] at hd
          refine am_steps ok_De_letPass 1 (x' := (93, [some (.ref 20), some (.int v1), some (.int u6.1), some (.int v3)], [.ref 20], h10, 0, 0)) rfl (Nat.le_of_ble_eq_true rfl) (Nat.le_of_ble_eq_true rfl) ?_
          refine hr_get ok_De_letPass rfl hR11 (kd := 5) (hs_k hR11 (a := 20) rfl) rfl (Nat.le_of_ble_eq_true rfl) (Nat.le_of_ble_eq_true rfl) (v := .ref 16) (congrArg va_rf (hR11.2.2.2.2.1 (501, 20, 16) (by decide))) (pc' := 96) rfl (Nat.le_of_ble_eq_true rfl) (Nat.le_of_ble_eq_true rfl) ?_
          obtain ⟨q23, hq24, hd25⟩ := Option.bind_eq_some_iff.mp hd; clear hd; have hd := hd25; clear hd25
          refine ar_cv ok_De_letPass hk_Qu_sendAllBack rfl rfl (As := []) (ad := 16) (rest := []) rfl rfl (hR11.ob (hs_k hR11 (a := 16) rfl) (Nat.le_of_ble_eq_true rfl)) (Nat.le_of_ble_eq_true rfl) (c_Qu_sendAllBack  u6.2 h10 hR11  q23 hq24) (Nat.le_of_ble_eq_true rfl) (Nat.le_of_ble_eq_true rfl) (Nat.le_of_ble_eq_true rfl) (Nat.le_of_ble_eq_true rfl) (pc' := 99) rfl (fun r26 h28 z27 => ?_)
          obtain ⟨rfl, hR30, g31, e32⟩ := z27
          have f33 := hF.tr f12 g31
          show am_S _ _ _ _ _ _ _ (99, [some (.ref 20), some (.int v1), some (.int u6.1), some (.int v3)], [], h28, 0, 0) _
          cases hd; exact K15 h28 hR30 f33 e32
      clear hB9; have hd := hA8; clear hA8
      refine am_if (fun hc34 => ?_) (fun hc34 => ?_)
      · rw [if_pos hc34] at hd
        refine am_steps ok_De_letPass 1 (x' := (39, [some (.ref 20), some (.int v1), some (.int v2), some (.int v3)], [.ref 20], h2, 0, 0)) rfl (Nat.le_of_ble_eq_true rfl) (Nat.le_of_ble_eq_true rfl) ?_
        refine hr_get ok_De_letPass rfl hR3 (kd := 5) (hs_k hR3 (a := 20) rfl) rfl (Nat.le_of_ble_eq_true rfl) (Nat.le_of_ble_eq_true rfl) (v := .int ((s.2.1 504 20) + 1)) rfl (pc' := 42) rfl (Nat.le_of_ble_eq_true rfl) (Nat.le_of_ble_eq_true rfl) ?_
        refine am_steps ok_De_letPass 2 (x' := (if (((s.2.1 504 20) + 1) : Int32) < 150 then 82 else 48, [some (.ref 20), some (.int v1), some (.int v2), some (.int v3)], [], h2, 0, 0)) rfl (Nat.le_of_ble_eq_true rfl) (Nat.le_of_ble_eq_true rfl) ?_
        refine am_if (fun hc35 => ?_) (fun hc35 => ?_)
        · rw [if_pos hc35] at hd
          cases hd; exact K7 h2 hR3 f5 hE.rf
        · rw [if_neg hc35] at hd
          refine am_steps ok_De_letPass 1 (x' := (49, [some (.ref 20), some (.int v1), some (.int v2), some (.int v3)], [.ref 20], h2, 0, 0)) rfl (Nat.le_of_ble_eq_true rfl) (Nat.le_of_ble_eq_true rfl) ?_
          refine hr_get ok_De_letPass rfl hR3 (kd := 5) (hs_k hR3 (a := 20) rfl) rfl (Nat.le_of_ble_eq_true rfl) (Nat.le_of_ble_eq_true rfl) (v := .int ((s.2.1 504 20) + 1)) rfl (pc' := 52) rfl (Nat.le_of_ble_eq_true rfl) (Nat.le_of_ble_eq_true rfl) ?_
          refine am_steps ok_De_letPass 2 (x' := (if (900 : Int32) < ((s.2.1 504 20) + 1) then 82 else 58, [some (.ref 20), some (.int v1), some (.int v2), some (.int v3)], [], h2, 0, 0)) rfl (Nat.le_of_ble_eq_true rfl) (Nat.le_of_ble_eq_true rfl) ?_
          refine am_if (fun hc36 => ?_) (fun hc36 => ?_)
          · rw [if_pos hc36] at hd
            cases hd; exact K7 h2 hR3 f5 hE.rf
          · rw [if_neg hc36] at hd
            refine am_steps ok_De_letPass 1 (x' := (59, [some (.ref 20), some (.int v1), some (.int v2), some (.int v3)], [.ref 20], h2, 0, 0)) rfl (Nat.le_of_ble_eq_true rfl) (Nat.le_of_ble_eq_true rfl) ?_
            refine hr_get ok_De_letPass rfl hR3 (kd := 5) (hs_k hR3 (a := 20) rfl) rfl (Nat.le_of_ble_eq_true rfl) (Nat.le_of_ble_eq_true rfl) (v := .int ((s.2.1 504 20) + 1)) rfl (pc' := 62) rfl (Nat.le_of_ble_eq_true rfl) (Nat.le_of_ble_eq_true rfl) ?_
            refine am_steps ok_De_letPass 1 (x' := (64, [some (.ref 20), some (.int v1), some (.int v2), some (.int v3)], [.int 50, .int ((s.2.1 504 20) + 1)], h2, 0, 0)) rfl (Nat.le_of_ble_eq_true rfl) (Nat.le_of_ble_eq_true rfl) ?_
            refine ar_irem ok_De_letPass rfl (by decide +kernel) (w := (((s.2.1 504 20) + 1) - ((s.2.1 504 20) + 1) / 50 * 50)) rfl (pc' := 65) rfl (Nat.le_of_ble_eq_true rfl) (Nat.le_of_ble_eq_true rfl) ?_
            refine am_steps ok_De_letPass 1 (x' := (if ¬ ((((s.2.1 504 20) + 1) - ((s.2.1 504 20) + 1) / 50 * 50) : Int32) = 0 then 82 else 68, [some (.ref 20), some (.int v1), some (.int v2), some (.int v3)], [], h2, 0, 0)) rfl (Nat.le_of_ble_eq_true rfl) (Nat.le_of_ble_eq_true rfl) ?_
            refine am_if (fun hc37 => ?_) (fun hc37 => ?_)
            · rw [if_pos hc37] at hd
              cases hd; exact K7 h2 hR3 f5 hE.rf
            · rw [if_neg hc37] at hd
              refine am_steps ok_De_letPass 1 (x' := (69, [some (.ref 20), some (.int v1), some (.int v2), some (.int v3)], [.ref 20], h2, 0, 0)) rfl (Nat.le_of_ble_eq_true rfl) (Nat.le_of_ble_eq_true rfl) ?_
              refine hr_get ok_De_letPass rfl hR3 (kd := 5) (hs_k hR3 (a := 20) rfl) rfl (Nat.le_of_ble_eq_true rfl) (Nat.le_of_ble_eq_true rfl) (v := .ref 16) (congrArg va_rf (hR3.2.2.2.2.1 (501, 20, 16) (by decide))) (pc' := 72) rfl (Nat.le_of_ble_eq_true rfl) (Nat.le_of_ble_eq_true rfl) ?_
              obtain ⟨q38, hq39, hd40⟩ := Option.bind_eq_some_iff.mp hd; clear hd; have hd := hd40; clear hd40
              refine ar_cv ok_De_letPass hk_Qu_resolve rfl rfl (As := []) (ad := 16) (rest := []) rfl rfl (hR3.ob (hs_k hR3 (a := 16) rfl) (Nat.le_of_ble_eq_true rfl)) (Nat.le_of_ble_eq_true rfl) (c_Qu_resolve  (hpI s 504 20 ((s.2.1 504 20) + 1)) h2 hR3  q38 hq39) (Nat.le_of_ble_eq_true rfl) (Nat.le_of_ble_eq_true rfl) (Nat.le_of_ble_eq_true rfl) (Nat.le_of_ble_eq_true rfl) (pc' := 75) rfl (fun r41 h43 z42 => ?_)
              obtain ⟨rfl, hR45, g46, e47⟩ := z42
              have f48 := hF.tr f5 g46
              show am_S _ _ _ _ _ _ _ (75, [some (.ref 20), some (.int v1), some (.int v2), some (.int v3)], [], h43, 0, 0) _
              refine am_steps ok_De_letPass 1 (x' := (76, [some (.ref 20), some (.int v1), some (.int v2), some (.int v3)], [.ref 20], h43, 0, 0)) rfl (Nat.le_of_ble_eq_true rfl) (Nat.le_of_ble_eq_true rfl) ?_
              refine hr_get ok_De_letPass rfl hR45 (kd := 5) (hs_k hR45 (a := 20) rfl) rfl (Nat.le_of_ble_eq_true rfl) (Nat.le_of_ble_eq_true rfl) (v := .ref 16) (congrArg va_rf (hR45.2.2.2.2.1 (501, 20, 16) (by decide))) (pc' := 79) rfl (Nat.le_of_ble_eq_true rfl) (Nat.le_of_ble_eq_true rfl) ?_
              obtain ⟨q49, hq50, hd51⟩ := Option.bind_eq_some_iff.mp hd; clear hd; have hd := hd51; clear hd51
              refine ar_cv ok_De_letPass hk_Qu_settleAllThatCan rfl rfl (As := []) (ad := 16) (rest := []) rfl rfl (hR45.ob (hs_k hR45 (a := 16) rfl) (Nat.le_of_ble_eq_true rfl)) (Nat.le_of_ble_eq_true rfl) (c_Qu_settleAllThatCan  q38 h43 hR45  q49 hq50) (Nat.le_of_ble_eq_true rfl) (Nat.le_of_ble_eq_true rfl) (Nat.le_of_ble_eq_true rfl) (Nat.le_of_ble_eq_true rfl) (pc' := 82) rfl (fun r52 h54 z53 => ?_)
              obtain ⟨rfl, hR56, g57, e58⟩ := z53
              have f59 := hF.tr f48 g57
              show am_S _ _ _ _ _ _ _ (82, [some (.ref 20), some (.int v1), some (.int v2), some (.int v3)], [], h54, 0, 0) _
              cases hd; exact K7 h54 hR56 f59 (e47.tr e58)
      · rw [if_neg hc34] at hd
        refine am_steps ok_De_letPass 1 (x' := (30, [some (.ref 20), some (.int v1), some (.int v2), some (.int v3)], [.ref 20], h2, 0, 0)) rfl (Nat.le_of_ble_eq_true rfl) (Nat.le_of_ble_eq_true rfl) ?_
        obtain ⟨q60, hq61, hd62⟩ := Option.bind_eq_some_iff.mp hd; clear hd; have hd := hd62; clear hd62
        refine ar_cv ok_De_letPass hk_De_beginDay rfl rfl (As := []) (ad := 20) (rest := []) rfl rfl (hR3.ob (hs_k hR3 (a := 20) rfl) (Nat.le_of_ble_eq_true rfl)) (Nat.le_of_ble_eq_true rfl) (c_De_beginDay  (hpI s 504 20 ((s.2.1 504 20) + 1)) h2 hR3  q60 hq61) (Nat.le_of_ble_eq_true rfl) (Nat.le_of_ble_eq_true rfl) (Nat.le_of_ble_eq_true rfl) (Nat.le_of_ble_eq_true rfl) (pc' := 33) rfl (fun r63 h65 z64 => ?_)
        obtain ⟨rfl, hR67, g68, e69⟩ := z64
        have f70 := hF.tr f5 g68
        show am_S _ _ _ _ _ _ _ (33, [some (.ref 20), some (.int v1), some (.int v2), some (.int v3)], [], h65, 0, 0) _
        refine am_steps ok_De_letPass 3 (x' := (82, [some (.ref 20), some (.int v1), some (.int 1), some (.int v3)], [], h65, 0, 0)) rfl (Nat.le_of_ble_eq_true rfl) (Nat.le_of_ble_eq_true rfl) ?_
        cases hd; exact K7 h65 hR67 f70 e69
def h_De_letPass (a : Int32) (S : hS) : Option (Int32 × hS) := (hl_De_letPass_4 100000 a 0 0 S).bind fun q71 => (if q71.1 = 0 ∨ q71.1 = 1 then some (q71.1, q71.2) else none)
set_option maxHeartbeats 4000000 in
set_option maxRecDepth 100000 in
theorem c_De_letPass (a : Int32) (S : hS) (h0 : am_H) (hR : RH S h0)  (q : Int32 × hS) (hd : h_De_letPass a S = some q) : am_Me am_Pr none 5 110 0 0 160 [.ref 20, .int a] h0 (hQr (.int q.1) q.2 S.1 h0) := by
  refine am_enter (d := hd_De_letPass) rfl (by decide +kernel) (Nat.le_of_ble_eq_true rfl) ?_
  show am_S _ _ _ _ _ _ _ (0, [some (.ref 20), some (.int a), none, none], [], h0, 0, 0) _
  unfold h_De_letPass at hd
  refine am_steps ok_De_letPass 4 (x' := (4, [some (.ref 20), some (.int a), some (.int 0), some (.int 0)], [], h0, 0, 0)) rfl (Nat.le_of_ble_eq_true rfl) (Nat.le_of_ble_eq_true rfl) ?_
  obtain ⟨q71, hq72, hd73⟩ := Option.bind_eq_some_iff.mp hd; clear hd; have hd := hd73; clear hd73
  refine Lc_De_letPass_4 S.1 h0 100000 a 0 0 S h0 hR hF.rf hE.rf  q71 hq72 (fun h74 hR75 f76 e77 => ?_)
  show am_S _ _ _ _ _ _ _ (105, [some (.ref 20), some (.int a), some (.int q71.1), none], [], h74, 0, 0) _
  refine am_steps ok_De_letPass 1 (x' := (106, [some (.ref 20), some (.int a), some (.int q71.1), none], [.int q71.1], h74, 0, 0)) rfl (Nat.le_of_ble_eq_true rfl) (Nat.le_of_ble_eq_true rfl) ?_
  split at hd
  · rename_i hz; cases hd; exact am_ret ok_De_letPass (if_pos hz) (Nat.le_of_ble_eq_true rfl) (Nat.le_of_ble_eq_true rfl) ⟨rfl, hR75, f76, (hE.rf.tr e77)⟩
  · cases hd
def hl_Bo_snapshotBytes_17 : Nat → Int32 → Int32 → Int32 → hS → Option (Int32)
  | 0, _, _, _, _ => none
  | fu + 1, v1, v2, v3, s => if ((s.2.1 403 10) : Int32) ≤ v3 then (some v1) else ((h_Bo_levelOf v2 v3 s).bind fun q3 => ((if ((lg_cmp q3 0) : Int32) = 0 then (some 0) else (some 1)).bind fun (u11 : Int32) => ((h_Bo_pledgedOf v2 v3 s).bind fun q15 => ((if ((lg_cmp q15 0) : Int32) = 0 then (some 0) else (some 1)).bind fun (u23 : Int32) => (hl_Bo_snapshotBytes_17 fu ((v1 + u11) + u23) v2 (v3 + 1) s)))))
set_option maxHeartbeats 4000000 in
set_option maxRecDepth 100000 in
theorem Lc_Bo_snapshotBytes_17 {Q : Option Value → am_H → Prop} (s : hS) (h : am_H) (hR : RH s h) : ∀ (fu : Nat) (v1 : Int32) (v2 : Int32) (v3 : Int32), ∀ (q : Int32), hl_Bo_snapshotBytes_17 fu v1 v2 v3 s = some q → (am_S am_Pr none 1 23 0 0 129 (69, [some (.ref 10), some (.int q), some (.int v2), none], [], h, 0, 0) Q) → am_S am_Pr none 1 23 0 0 129 (17, [some (.ref 10), some (.int v1), some (.int v2), some (.int v3)], [], h, 0, 0) Q := by
  intro fu
  induction fu with
  | zero => intro v1 v2 v3  q hd; cases hd
  | succ fu ih =>
    intro v1 v2 v3  q hd kk
    unfold hl_Bo_snapshotBytes_17 at hd
    refine am_steps ok_Bo_snapshotBytes 2 (x' := (19, [some (.ref 10), some (.int v1), some (.int v2), some (.int v3)], [.ref 10, .int v3], h, 0, 0)) rfl (Nat.le_of_ble_eq_true rfl) (Nat.le_of_ble_eq_true rfl) ?_
    refine hr_get ok_Bo_snapshotBytes rfl hR (kd := 4) (hs_k hR (a := 10) rfl) rfl (Nat.le_of_ble_eq_true rfl) (Nat.le_of_ble_eq_true rfl) (v := .int (s.2.1 403 10)) rfl (pc' := 22) rfl (Nat.le_of_ble_eq_true rfl) (Nat.le_of_ble_eq_true rfl) ?_
    refine am_steps ok_Bo_snapshotBytes 1 (x' := (if ((s.2.1 403 10) : Int32) ≤ v3 then 69 else 25, [some (.ref 10), some (.int v1), some (.int v2), some (.int v3)], [], h, 0, 0)) rfl (Nat.le_of_ble_eq_true rfl) (Nat.le_of_ble_eq_true rfl) ?_
    refine am_if (fun hc2 => ?_) (fun hc2 => ?_)
    · rw [if_pos hc2] at hd
      refine am_drop 3 ?_
      cases hd; exact kk 
    · rw [if_neg hc2] at hd
      refine am_steps ok_Bo_snapshotBytes 4 (x' := (29, [some (.ref 10), some (.int v1), some (.int v2), some (.int v3)], [.int v3, .int v2, .ref 10, .int v1], h, 0, 0)) rfl (Nat.le_of_ble_eq_true rfl) (Nat.le_of_ble_eq_true rfl) ?_
      obtain ⟨q3, hq4, hd5⟩ := Option.bind_eq_some_iff.mp hd; clear hd; have hd := hd5; clear hd5
      refine ar_cv ok_Bo_snapshotBytes hk_Bo_levelOf rfl rfl (As := [.int v2, .int v3]) (ad := 10) (rest := [.int v1]) rfl rfl (hR.ob (hs_k hR (a := 10) rfl) (Nat.le_of_ble_eq_true rfl)) (Nat.le_of_ble_eq_true rfl) (c_Bo_levelOf v2 v3 s h hR  q3 hq4) (Nat.le_of_ble_eq_true rfl) (Nat.le_of_ble_eq_true rfl) (Nat.le_of_ble_eq_true rfl) (Nat.le_of_ble_eq_true rfl) (pc' := 32) rfl (fun r6 h8 z7 => ?_)
      obtain ⟨rfl, z10⟩ := z7; rw [z10]
      show am_S _ _ _ _ _ _ _ (32, [some (.ref 10), some (.int v1), some (.int v2), some (.int v3)], [.long q3, .int v1], h, 0, 0) _
      refine am_steps ok_Bo_snapshotBytes 3 (x' := (if ((lg_cmp q3 0) : Int32) = 0 then 41 else 37, [some (.ref 10), some (.int v1), some (.int v2), some (.int v3)], [.int v1], h, 0, 0)) rfl (Nat.le_of_ble_eq_true rfl) (Nat.le_of_ble_eq_true rfl) ?_
      obtain ⟨u11, hA13, hB14⟩ := Option.bind_eq_some_iff.mp hd; clear hd
      have K12 : am_S am_Pr none 1 23 0 0 129 (42, [some (.ref 10), none, some (.int v2), some (.int v3)], [.int u11, .int v1], h, 0, 0) Q := by
        have hd := hB14
        refine am_steps ok_Bo_snapshotBytes 6 (x' := (48, [some (.ref 10), some (.int (v1 + u11)), some (.int v2), some (.int v3)], [.int v3, .int v2, .ref 10, .int (v1 + u11)], h, 0, 0)) rfl (Nat.le_of_ble_eq_true rfl) (Nat.le_of_ble_eq_true rfl) ?_
        obtain ⟨q15, hq16, hd17⟩ := Option.bind_eq_some_iff.mp hd; clear hd; have hd := hd17; clear hd17
        refine ar_cv ok_Bo_snapshotBytes hk_Bo_pledgedOf rfl rfl (As := [.int v2, .int v3]) (ad := 10) (rest := [.int (v1 + u11)]) rfl rfl (hR.ob (hs_k hR (a := 10) rfl) (Nat.le_of_ble_eq_true rfl)) (Nat.le_of_ble_eq_true rfl) (c_Bo_pledgedOf v2 v3 s h hR  q15 hq16) (Nat.le_of_ble_eq_true rfl) (Nat.le_of_ble_eq_true rfl) (Nat.le_of_ble_eq_true rfl) (Nat.le_of_ble_eq_true rfl) (pc' := 51) rfl (fun r18 h20 z19 => ?_)
        obtain ⟨rfl, z22⟩ := z19; rw [z22]
        show am_S _ _ _ _ _ _ _ (51, [some (.ref 10), some (.int (v1 + u11)), some (.int v2), some (.int v3)], [.long q15, .int (v1 + u11)], h, 0, 0) _
        refine am_steps ok_Bo_snapshotBytes 3 (x' := (if ((lg_cmp q15 0) : Int32) = 0 then 60 else 56, [some (.ref 10), some (.int (v1 + u11)), some (.int v2), some (.int v3)], [.int (v1 + u11)], h, 0, 0)) rfl (Nat.le_of_ble_eq_true rfl) (Nat.le_of_ble_eq_true rfl) ?_
        obtain ⟨u23, hA25, hB26⟩ := Option.bind_eq_some_iff.mp hd; clear hd
        have K24 : am_S am_Pr none 1 23 0 0 129 (61, [some (.ref 10), none, some (.int v2), some (.int v3)], [.int u23, .int (v1 + u11)], h, 0, 0) Q := by
          have hd := hB26
          refine am_steps ok_Bo_snapshotBytes 4 (x' := (17, [some (.ref 10), some (.int ((v1 + u11) + u23)), some (.int v2), some (.int (v3 + 1))], [], h, 0, 0)) rfl (Nat.le_of_ble_eq_true rfl) (Nat.le_of_ble_eq_true rfl) ?_
          exact ih ((v1 + u11) + u23) v2 (v3 + 1)  q hd kk
        clear hB26; have hd := hA25; clear hA25
        refine am_if (fun hc27 => ?_) (fun hc27 => ?_)
        · rw [if_pos hc27] at hd
          refine am_steps ok_Bo_snapshotBytes 1 (x' := (61, [some (.ref 10), some (.int (v1 + u11)), some (.int v2), some (.int v3)], [.int 0, .int (v1 + u11)], h, 0, 0)) rfl (Nat.le_of_ble_eq_true rfl) (Nat.le_of_ble_eq_true rfl) ?_
          refine am_drop 1 ?_
          cases hd; exact K24 
        · rw [if_neg hc27] at hd
          refine am_steps ok_Bo_snapshotBytes 2 (x' := (61, [some (.ref 10), some (.int (v1 + u11)), some (.int v2), some (.int v3)], [.int 1, .int (v1 + u11)], h, 0, 0)) rfl (Nat.le_of_ble_eq_true rfl) (Nat.le_of_ble_eq_true rfl) ?_
          refine am_drop 1 ?_
          cases hd; exact K24 
      clear hB14; have hd := hA13; clear hA13
      refine am_if (fun hc28 => ?_) (fun hc28 => ?_)
      · rw [if_pos hc28] at hd
        refine am_steps ok_Bo_snapshotBytes 1 (x' := (42, [some (.ref 10), some (.int v1), some (.int v2), some (.int v3)], [.int 0, .int v1], h, 0, 0)) rfl (Nat.le_of_ble_eq_true rfl) (Nat.le_of_ble_eq_true rfl) ?_
        refine am_drop 1 ?_
        cases hd; exact K12 
      · rw [if_neg hc28] at hd
        refine am_steps ok_Bo_snapshotBytes 2 (x' := (42, [some (.ref 10), some (.int v1), some (.int v2), some (.int v3)], [.int 1, .int v1], h, 0, 0)) rfl (Nat.le_of_ble_eq_true rfl) (Nat.le_of_ble_eq_true rfl) ?_
        refine am_drop 1 ?_
        cases hd; exact K12 
def hl_Bo_snapshotBytes_7 : Nat → Int32 → Int32 → hS → Option (Int32)
  | 0, _, _, _ => none
  | fu + 1, v1, v2, s => if ((s.2.1 401 10) : Int32) ≤ v2 then (some v1) else ((hl_Bo_snapshotBytes_17 100000 v1 v2 0 s).bind fun q29 => (hl_Bo_snapshotBytes_7 fu q29 (v2 + 1) s))
set_option maxHeartbeats 4000000 in
set_option maxRecDepth 100000 in
theorem Lc_Bo_snapshotBytes_7 {Q : Option Value → am_H → Prop} (s : hS) (h : am_H) (hR : RH s h) : ∀ (fu : Nat) (v1 : Int32) (v2 : Int32), ∀ (q : Int32), hl_Bo_snapshotBytes_7 fu v1 v2 s = some q → (am_S am_Pr none 1 23 0 0 129 (75, [some (.ref 10), some (.int q), none, none], [], h, 0, 0) Q) → am_S am_Pr none 1 23 0 0 129 (7, [some (.ref 10), some (.int v1), some (.int v2), none], [], h, 0, 0) Q := by
  intro fu
  induction fu with
  | zero => intro v1 v2  q hd; cases hd
  | succ fu ih =>
    intro v1 v2  q hd kk
    unfold hl_Bo_snapshotBytes_7 at hd
    refine am_steps ok_Bo_snapshotBytes 2 (x' := (9, [some (.ref 10), some (.int v1), some (.int v2), none], [.ref 10, .int v2], h, 0, 0)) rfl (Nat.le_of_ble_eq_true rfl) (Nat.le_of_ble_eq_true rfl) ?_
    refine hr_get ok_Bo_snapshotBytes rfl hR (kd := 4) (hs_k hR (a := 10) rfl) rfl (Nat.le_of_ble_eq_true rfl) (Nat.le_of_ble_eq_true rfl) (v := .int (s.2.1 401 10)) rfl (pc' := 12) rfl (Nat.le_of_ble_eq_true rfl) (Nat.le_of_ble_eq_true rfl) ?_
    refine am_steps ok_Bo_snapshotBytes 1 (x' := (if ((s.2.1 401 10) : Int32) ≤ v2 then 75 else 15, [some (.ref 10), some (.int v1), some (.int v2), none], [], h, 0, 0)) rfl (Nat.le_of_ble_eq_true rfl) (Nat.le_of_ble_eq_true rfl) ?_
    refine am_if (fun hc1 => ?_) (fun hc1 => ?_)
    · rw [if_pos hc1] at hd
      refine am_drop 2 ?_
      cases hd; exact kk 
    · rw [if_neg hc1] at hd
      refine am_steps ok_Bo_snapshotBytes 2 (x' := (17, [some (.ref 10), some (.int v1), some (.int v2), some (.int 0)], [], h, 0, 0)) rfl (Nat.le_of_ble_eq_true rfl) (Nat.le_of_ble_eq_true rfl) ?_
      obtain ⟨q29, hq30, hd31⟩ := Option.bind_eq_some_iff.mp hd; clear hd; have hd := hd31; clear hd31
      refine Lc_Bo_snapshotBytes_17 s h hR 100000 v1 v2 0  q29 hq30 ?_
      show am_S _ _ _ _ _ _ _ (69, [some (.ref 10), some (.int q29), some (.int v2), none], [], h, 0, 0) _
      refine am_steps ok_Bo_snapshotBytes 2 (x' := (7, [some (.ref 10), some (.int q29), some (.int (v2 + 1)), none], [], h, 0, 0)) rfl (Nat.le_of_ble_eq_true rfl) (Nat.le_of_ble_eq_true rfl) ?_
      exact ih q29 (v2 + 1)  q hd kk
def h_Bo_snapshotBytes  (S : hS) : Option (Int32) := (hl_Bo_snapshotBytes_7 100000 (S.2.1 405 10) 0 S).bind fun q32 => (some (((20 + (4 * (S.2.1 401 10))) + (14 * (S.2.1 403 10))) + (12 * q32)))
set_option maxHeartbeats 4000000 in
set_option maxRecDepth 100000 in
theorem c_Bo_snapshotBytes  (S : hS) (h0 : am_H) (hR : RH S h0)  (q : Int32) (hd : h_Bo_snapshotBytes  S = some q) : am_Me am_Pr none 1 23 0 0 129 [.ref 10] h0 (am_is (some (.int q)) h0) := by
  refine am_enter (d := hd_Bo_snapshotBytes) rfl (by decide +kernel) (Nat.le_of_ble_eq_true rfl) ?_
  show am_S _ _ _ _ _ _ _ (0, [some (.ref 10), none, none, none], [], h0, 0, 0) _
  unfold h_Bo_snapshotBytes at hd
  refine am_steps ok_Bo_snapshotBytes 1 (x' := (1, [some (.ref 10), none, none, none], [.ref 10], h0, 0, 0)) rfl (Nat.le_of_ble_eq_true rfl) (Nat.le_of_ble_eq_true rfl) ?_
  refine hr_get ok_Bo_snapshotBytes rfl hR (kd := 4) (hs_k hR (a := 10) rfl) rfl (Nat.le_of_ble_eq_true rfl) (Nat.le_of_ble_eq_true rfl) (v := .int (S.2.1 405 10)) rfl (pc' := 4) rfl (Nat.le_of_ble_eq_true rfl) (Nat.le_of_ble_eq_true rfl) ?_
  refine am_steps ok_Bo_snapshotBytes 3 (x' := (7, [some (.ref 10), some (.int (S.2.1 405 10)), some (.int 0), none], [], h0, 0, 0)) rfl (Nat.le_of_ble_eq_true rfl) (Nat.le_of_ble_eq_true rfl) ?_
  obtain ⟨q32, hq33, hd34⟩ := Option.bind_eq_some_iff.mp hd; clear hd; have hd := hd34; clear hd34
  refine Lc_Bo_snapshotBytes_7 S h0 hR 100000 (S.2.1 405 10) 0  q32 hq33 ?_
  show am_S _ _ _ _ _ _ _ (75, [some (.ref 10), some (.int q32), none, none], [], h0, 0, 0) _
  refine am_steps ok_Bo_snapshotBytes 3 (x' := (79, [some (.ref 10), some (.int q32), none, none], [.ref 10, .int 4, .int 20], h0, 0, 0)) rfl (Nat.le_of_ble_eq_true rfl) (Nat.le_of_ble_eq_true rfl) ?_
  refine hr_get ok_Bo_snapshotBytes rfl hR (kd := 4) (hs_k hR (a := 10) rfl) rfl (Nat.le_of_ble_eq_true rfl) (Nat.le_of_ble_eq_true rfl) (v := .int (S.2.1 401 10)) rfl (pc' := 82) rfl (Nat.le_of_ble_eq_true rfl) (Nat.le_of_ble_eq_true rfl) ?_
  refine am_steps ok_Bo_snapshotBytes 4 (x' := (87, [some (.ref 10), some (.int q32), none, none], [.ref 10, .int 14, .int (20 + (4 * (S.2.1 401 10)))], h0, 0, 0)) rfl (Nat.le_of_ble_eq_true rfl) (Nat.le_of_ble_eq_true rfl) ?_
  refine hr_get ok_Bo_snapshotBytes rfl hR (kd := 4) (hs_k hR (a := 10) rfl) rfl (Nat.le_of_ble_eq_true rfl) (Nat.le_of_ble_eq_true rfl) (v := .int (S.2.1 403 10)) rfl (pc' := 90) rfl (Nat.le_of_ble_eq_true rfl) (Nat.le_of_ble_eq_true rfl) ?_
  refine am_steps ok_Bo_snapshotBytes 6 (x' := (97, [some (.ref 10), some (.int q32), none, none], [.int (((20 + (4 * (S.2.1 401 10))) + (14 * (S.2.1 403 10))) + (12 * q32))], h0, 0, 0)) rfl (Nat.le_of_ble_eq_true rfl) (Nat.le_of_ble_eq_true rfl) ?_
  cases hd; exact am_ret ok_Bo_snapshotBytes rfl (Nat.le_of_ble_eq_true rfl) (Nat.le_of_ble_eq_true rfl) ⟨rfl, rfl⟩
def h_Di_blocksOf (a : Int32) : Option (Int32) := some (((a + 500) - 1) / 500)
set_option maxHeartbeats 4000000 in
set_option maxRecDepth 100000 in
theorem c_Di_blocksOf (a : Int32) (h0 : am_H) (q : Int32) (hd : h_Di_blocksOf a = some q) : am_Me am_Pr none 0 0 0 0 167 [.int a] h0 (am_is (some (.int q)) h0) := by
  refine am_enter (d := hd_Di_blocksOf) rfl (by decide +kernel) (Nat.le_of_ble_eq_true rfl) ?_
  show am_S _ _ _ _ _ _ _ (0, [some (.int a)], [], h0, 0, 0) _
  unfold h_Di_blocksOf at hd
  refine am_steps ok_Di_blocksOf 6 (x' := (10, [some (.int a)], [.int 500, .int ((a + 500) - 1)], h0, 0, 0)) rfl (Nat.le_of_ble_eq_true rfl) (Nat.le_of_ble_eq_true rfl) ?_
  refine ar_idiv ok_Di_blocksOf rfl (by decide +kernel) (w := (((a + 500) - 1) / 500)) rfl (pc' := 11) rfl (Nat.le_of_ble_eq_true rfl) (Nat.le_of_ble_eq_true rfl) ?_
  cases hd; exact am_ret ok_Di_blocksOf rfl (Nat.le_of_ble_eq_true rfl) (Nat.le_of_ble_eq_true rfl) ⟨rfl, rfl⟩
def hl_Di_writeSnapshot_9 : Nat → Int32 → Int32 → hS → Option (Int32 × hS)
  | 0, _, _, _ => none
  | fu + 1, v2, v3, s => if (v2 : Int32) ≤ v3 then (some (1, (hpI s 603 9 0))) else ((h_Di_writeBlock  s).bind fun q14 => (if ¬ (q14.1 : Int32) = 0 then (hl_Di_writeSnapshot_9 fu v2 (v3 + 1) q14.2) else (some (0, q14.2))))
set_option maxHeartbeats 4000000 in
set_option maxRecDepth 100000 in
theorem Lc_Di_writeSnapshot_9 (sh0 : List (Nat × Nat)) (h0 : am_H) : ∀ (fu : Nat) (v2 : Int32) (v3 : Int32) (s : hS) (h : am_H), RH s h → hF h0 h → hE sh0 s.1 → ∀ q : Int32 × hS, hl_Di_writeSnapshot_9 fu v2 v3 s = some q → am_S am_Pr none 1 20 0 0 165 (9, [some (.ref 9), none, some (.int v2), some (.int v3)], [], h, 0, 0) (hQr (.int q.1) q.2 sh0 h0) := by
  intro fu
  induction fu with
  | zero => intro v2 v3 s h hR f he  q hd; cases hd
  | succ fu ih =>
    intro v2 v3 s h hR f he  q hd
    unfold hl_Di_writeSnapshot_9 at hd
    refine am_steps ok_Di_writeSnapshot 3 (x' := (if (v2 : Int32) ≤ v3 then 29 else 14, [some (.ref 9), none, some (.int v2), some (.int v3)], [], h, 0, 0)) rfl (Nat.le_of_ble_eq_true rfl) (Nat.le_of_ble_eq_true rfl) ?_
    refine am_if (fun hc9 => ?_) (fun hc9 => ?_)
    · rw [if_pos hc9] at hd
      refine am_steps ok_Di_writeSnapshot 2 (x' := (31, [some (.ref 9), none, some (.int v2), some (.int v3)], [.int 0, .ref 9], h, 0, 0)) rfl (Nat.le_of_ble_eq_true rfl) (Nat.le_of_ble_eq_true rfl) ?_
      refine hr_put ok_Di_writeSnapshot rfl hR (kd := 6) (hs_k hR (a := 9) rfl) rfl (Nat.le_of_ble_eq_true rfl) (Nat.le_of_ble_eq_true rfl) rfl (S' := (hpI s 603 9 0)) rfl (hWT.up hR.2.2 rfl rfl rfl) (pc' := 34) rfl (Nat.le_of_ble_eq_true rfl) (Nat.le_of_ble_eq_true rfl) (fun h10 hR11 g12 => ?_)
      have f13 := hF.tr f g12
      refine am_steps ok_Di_writeSnapshot 1 (x' := (35, [some (.ref 9), none, some (.int v2), some (.int v3)], [.int 1], h10, 0, 0)) rfl (Nat.le_of_ble_eq_true rfl) (Nat.le_of_ble_eq_true rfl) ?_
      cases hd; exact am_ret ok_Di_writeSnapshot rfl (Nat.le_of_ble_eq_true rfl) (Nat.le_of_ble_eq_true rfl) ⟨rfl, hR11, f13, he⟩
    · rw [if_neg hc9] at hd
      refine am_steps ok_Di_writeSnapshot 1 (x' := (15, [some (.ref 9), none, some (.int v2), some (.int v3)], [.ref 9], h, 0, 0)) rfl (Nat.le_of_ble_eq_true rfl) (Nat.le_of_ble_eq_true rfl) ?_
      obtain ⟨q14, hq15, hd16⟩ := Option.bind_eq_some_iff.mp hd; clear hd; have hd := hd16; clear hd16
      refine ar_cv ok_Di_writeSnapshot hk_Di_writeBlock rfl rfl (As := []) (ad := 9) (rest := []) rfl rfl (hR.ob (hs_k hR (a := 9) rfl) (Nat.le_of_ble_eq_true rfl)) (Nat.le_of_ble_eq_true rfl) (c_Di_writeBlock  s h hR  q14 hq15) (Nat.le_of_ble_eq_true rfl) (Nat.le_of_ble_eq_true rfl) (Nat.le_of_ble_eq_true rfl) (Nat.le_of_ble_eq_true rfl) (pc' := 18) rfl (fun r17 h19 z18 => ?_)
      obtain ⟨rfl, hR21, g22, e23⟩ := z18
      have f24 := hF.tr f g22
      show am_S _ _ _ _ _ _ _ (18, [some (.ref 9), none, some (.int v2), some (.int v3)], [.int q14.1], h19, 0, 0) _
      refine am_steps ok_Di_writeSnapshot 1 (x' := (if ¬ (q14.1 : Int32) = 0 then 23 else 21, [some (.ref 9), none, some (.int v2), some (.int v3)], [], h19, 0, 0)) rfl (Nat.le_of_ble_eq_true rfl) (Nat.le_of_ble_eq_true rfl) ?_
      refine am_if (fun hc25 => ?_) (fun hc25 => ?_)
      · rw [if_pos hc25] at hd
        refine am_steps ok_Di_writeSnapshot 2 (x' := (9, [some (.ref 9), none, some (.int v2), some (.int (v3 + 1))], [], h19, 0, 0)) rfl (Nat.le_of_ble_eq_true rfl) (Nat.le_of_ble_eq_true rfl) ?_
        exact ih v2 (v3 + 1) q14.2 h19 hR21 f24 (he.tr e23)  q hd
      · rw [if_neg hc25] at hd
        refine am_steps ok_Di_writeSnapshot 1 (x' := (22, [some (.ref 9), none, some (.int v2), some (.int v3)], [.int 0], h19, 0, 0)) rfl (Nat.le_of_ble_eq_true rfl) (Nat.le_of_ble_eq_true rfl) ?_
        cases hd; exact am_ret ok_Di_writeSnapshot rfl (Nat.le_of_ble_eq_true rfl) (Nat.le_of_ble_eq_true rfl) ⟨rfl, hR21, f24, (he.tr e23)⟩
def h_Di_writeSnapshot (a : Int32) (S : hS) : Option (Int32 × hS) := (h_Di_blocksOf a).bind fun q1 => (hl_Di_writeSnapshot_9 100000 (q1 + 1) 0 S)
set_option maxHeartbeats 4000000 in
set_option maxRecDepth 100000 in
theorem c_Di_writeSnapshot (a : Int32) (S : hS) (h0 : am_H) (hR : RH S h0)  (q : Int32 × hS) (hd : h_Di_writeSnapshot a S = some q) : am_Me am_Pr none 1 20 0 0 165 [.ref 9, .int a] h0 (hQr (.int q.1) q.2 S.1 h0) := by
  refine am_enter (d := hd_Di_writeSnapshot) rfl (by decide +kernel) (Nat.le_of_ble_eq_true rfl) ?_
  show am_S _ _ _ _ _ _ _ (0, [some (.ref 9), some (.int a), none, none], [], h0, 0, 0) _
  unfold h_Di_writeSnapshot at hd
  refine am_steps ok_Di_writeSnapshot 1 (x' := (1, [some (.ref 9), some (.int a), none, none], [.int a], h0, 0, 0)) rfl (Nat.le_of_ble_eq_true rfl) (Nat.le_of_ble_eq_true rfl) ?_
  obtain ⟨q1, hq2, hd3⟩ := Option.bind_eq_some_iff.mp hd; clear hd; have hd := hd3; clear hd3
  refine am_call ok_Di_writeSnapshot hk_Di_blocksOf rfl (args' := [.int a]) (rest := []) rfl (c_Di_blocksOf a h0 q1 hq2) (Nat.le_of_ble_eq_true rfl) (Nat.le_of_ble_eq_true rfl) (Nat.le_of_ble_eq_true rfl) (Nat.le_of_ble_eq_true rfl) (fun r4 h6 z5 => ?_)
  obtain ⟨rfl, z8⟩ := z5; rw [z8]
  show am_S _ _ _ _ _ _ _ (4, [some (.ref 9), some (.int a), none, none], [.int q1], h0, 0, 0) _
  refine am_steps ok_Di_writeSnapshot 5 (x' := (9, [some (.ref 9), some (.int a), some (.int (q1 + 1)), some (.int 0)], [], h0, 0, 0)) rfl (Nat.le_of_ble_eq_true rfl) (Nat.le_of_ble_eq_true rfl) ?_
  refine am_drop 1 ?_
  exact Lc_Di_writeSnapshot_9 S.1 h0 100000 (q1 + 1) 0 S h0 hR hF.rf hE.rf  q hd
def h_Qu_forgetTold  (S : hS) : Option (hS) := some (hpI S 1105 16 0)
set_option maxHeartbeats 4000000 in
set_option maxRecDepth 100000 in
theorem c_Qu_forgetTold  (S : hS) (h0 : am_H) (hR : RH S h0)  (q : hS) (hd : h_Qu_forgetTold  S = some q) : am_Me am_Pr none 0 0 0 0 225 [.ref 16] h0 (hQv q S.1 h0) := by
  refine am_enter (d := hd_Qu_forgetTold) rfl (by decide +kernel) (Nat.le_of_ble_eq_true rfl) ?_
  show am_S _ _ _ _ _ _ _ (0, [some (.ref 16)], [], h0, 0, 0) _
  unfold h_Qu_forgetTold at hd
  refine am_steps ok_Qu_forgetTold 2 (x' := (2, [some (.ref 16)], [.int 0, .ref 16], h0, 0, 0)) rfl (Nat.le_of_ble_eq_true rfl) (Nat.le_of_ble_eq_true rfl) ?_
  refine hr_put ok_Qu_forgetTold rfl hR (kd := 11) (hs_k hR (a := 16) rfl) rfl (Nat.le_of_ble_eq_true rfl) (Nat.le_of_ble_eq_true rfl) rfl (S' := (hpI S 1105 16 0)) rfl (hWT.up hR.2.2 rfl rfl rfl) (pc' := 5) rfl (Nat.le_of_ble_eq_true rfl) (Nat.le_of_ble_eq_true rfl) (fun h1 hR2 g3 => ?_)
  have f4 := hF.tr hF.rf g3
  cases hd; exact am_ret ok_Qu_forgetTold rfl (Nat.le_of_ble_eq_true rfl) (Nat.le_of_ble_eq_true rfl) ⟨rfl, hR2, f4, hE.rf⟩
def h_Ho_tick (a : Int32) (S : hS) : Option (Int32 × hS) := if ((S.2.1 600 9) : Int32) = 0 then (some (0, S)) else (if (a : Int32) < 1 then (some (0, S)) else (if (a : Int32) ≤ 1000 then ((h_An_clear  S).bind fun q4 => ((h_Di_writeRecord 4 q4).bind fun q15 => (if ¬ (q15.1 : Int32) = 0 then ((h_De_letPass a q15.2).bind fun q27 => (if (q27.1 : Int32) = 0 then ((h_Qu_tell  q27.2).bind fun q39 => (some (1, q39))) else ((h_Bo_snapshotBytes  q27.2).bind fun q50 => ((h_Di_writeSnapshot q50 q27.2).bind fun q58 => (if ¬ (q58.1 : Int32) = 0 then ((h_Qu_tell  q58.2).bind fun q70 => (some (1, q70))) else ((h_Qu_forgetTold  q58.2).bind fun q81 => (some (2, q81)))))))) else (some (2, q15.2))))) else (some (0, S))))
set_option maxHeartbeats 4000000 in
set_option maxRecDepth 100000 in
theorem c_Ho_tick (a : Int32) (S : hS) (h0 : am_H) (hR : RH S h0)  (q : Int32 × hS) (hd : h_Ho_tick a S = some q) : am_Me am_Pr none 6 133 0 0 3 [.ref 0, .int a] h0 (hQr (.int q.1) q.2 S.1 h0) := by
  refine am_enter (d := hd_Ho_tick) rfl (by decide +kernel) (Nat.le_of_ble_eq_true rfl) ?_
  show am_S _ _ _ _ _ _ _ (0, [some (.ref 0), some (.int a), none], [], h0, 0, 0) _
  unfold h_Ho_tick at hd
  refine am_steps ok_Ho_tick 1 (x' := (1, [some (.ref 0), some (.int a), none], [.ref 0], h0, 0, 0)) rfl (Nat.le_of_ble_eq_true rfl) (Nat.le_of_ble_eq_true rfl) ?_
  refine hr_get ok_Ho_tick rfl hR (kd := 0) (hs_k hR (a := 0) rfl) rfl (Nat.le_of_ble_eq_true rfl) (Nat.le_of_ble_eq_true rfl) (v := .ref 9) (congrArg va_rf (hR.2.2.2.2.1 (4, 0, 9) (by decide))) (pc' := 4) rfl (Nat.le_of_ble_eq_true rfl) (Nat.le_of_ble_eq_true rfl) ?_
  refine hr_get ok_Ho_tick rfl hR (kd := 6) (hs_k hR (a := 9) rfl) rfl (Nat.le_of_ble_eq_true rfl) (Nat.le_of_ble_eq_true rfl) (v := .int (S.2.1 600 9)) rfl (pc' := 7) rfl (Nat.le_of_ble_eq_true rfl) (Nat.le_of_ble_eq_true rfl) ?_
  refine am_steps ok_Ho_tick 1 (x' := (if ((S.2.1 600 9) : Int32) = 0 then 22 else 10, [some (.ref 0), some (.int a), none], [], h0, 0, 0)) rfl (Nat.le_of_ble_eq_true rfl) (Nat.le_of_ble_eq_true rfl) ?_
  refine am_if (fun hc1 => ?_) (fun hc1 => ?_)
  · rw [if_pos hc1] at hd
    refine am_steps ok_Ho_tick 1 (x' := (23, [some (.ref 0), some (.int a), none], [.int 0], h0, 0, 0)) rfl (Nat.le_of_ble_eq_true rfl) (Nat.le_of_ble_eq_true rfl) ?_
    cases hd; exact am_ret ok_Ho_tick rfl (Nat.le_of_ble_eq_true rfl) (Nat.le_of_ble_eq_true rfl) ⟨rfl, hR, hF.rf, hE.rf⟩
  · rw [if_neg hc1] at hd
    refine am_steps ok_Ho_tick 3 (x' := (if (a : Int32) < 1 then 22 else 15, [some (.ref 0), some (.int a), none], [], h0, 0, 0)) rfl (Nat.le_of_ble_eq_true rfl) (Nat.le_of_ble_eq_true rfl) ?_
    refine am_if (fun hc2 => ?_) (fun hc2 => ?_)
    · rw [if_pos hc2] at hd
      refine am_steps ok_Ho_tick 1 (x' := (23, [some (.ref 0), some (.int a), none], [.int 0], h0, 0, 0)) rfl (Nat.le_of_ble_eq_true rfl) (Nat.le_of_ble_eq_true rfl) ?_
      cases hd; exact am_ret ok_Ho_tick rfl (Nat.le_of_ble_eq_true rfl) (Nat.le_of_ble_eq_true rfl) ⟨rfl, hR, hF.rf, hE.rf⟩
    · rw [if_neg hc2] at hd
      refine am_steps ok_Ho_tick 3 (x' := (if (a : Int32) ≤ 1000 then 24 else 22, [some (.ref 0), some (.int a), none], [], h0, 0, 0)) rfl (Nat.le_of_ble_eq_true rfl) (Nat.le_of_ble_eq_true rfl) ?_
      refine am_if (fun hc3 => ?_) (fun hc3 => ?_)
      · rw [if_pos hc3] at hd
        refine am_steps ok_Ho_tick 1 (x' := (25, [some (.ref 0), some (.int a), none], [.ref 0], h0, 0, 0)) rfl (Nat.le_of_ble_eq_true rfl) (Nat.le_of_ble_eq_true rfl) ?_
        refine hr_get ok_Ho_tick rfl hR (kd := 0) (hs_k hR (a := 0) rfl) rfl (Nat.le_of_ble_eq_true rfl) (Nat.le_of_ble_eq_true rfl) (v := .ref 7) (congrArg va_rf (hR.2.2.2.2.1 (3, 0, 7) (by decide))) (pc' := 28) rfl (Nat.le_of_ble_eq_true rfl) (Nat.le_of_ble_eq_true rfl) ?_
        obtain ⟨q4, hq5, hd6⟩ := Option.bind_eq_some_iff.mp hd; clear hd; have hd := hd6; clear hd6
        refine ar_cv ok_Ho_tick hk_An_clear rfl rfl (As := []) (ad := 7) (rest := []) rfl rfl (hR.ob (hs_k hR (a := 7) rfl) (Nat.le_of_ble_eq_true rfl)) (Nat.le_of_ble_eq_true rfl) (c_An_clear  S h0 hR  q4 hq5) (Nat.le_of_ble_eq_true rfl) (Nat.le_of_ble_eq_true rfl) (Nat.le_of_ble_eq_true rfl) (Nat.le_of_ble_eq_true rfl) (pc' := 31) rfl (fun r7 h9 z8 => ?_)
        obtain ⟨rfl, hR11, g12, e13⟩ := z8
        have f14 := hF.tr hF.rf g12
        show am_S _ _ _ _ _ _ _ (31, [some (.ref 0), some (.int a), none], [], h9, 0, 0) _
        refine am_steps ok_Ho_tick 1 (x' := (32, [some (.ref 0), some (.int a), none], [.ref 0], h9, 0, 0)) rfl (Nat.le_of_ble_eq_true rfl) (Nat.le_of_ble_eq_true rfl) ?_
        refine hr_get ok_Ho_tick rfl hR11 (kd := 0) (hs_k hR11 (a := 0) rfl) rfl (Nat.le_of_ble_eq_true rfl) (Nat.le_of_ble_eq_true rfl) (v := .ref 9) (congrArg va_rf (hR11.2.2.2.2.1 (4, 0, 9) (by decide))) (pc' := 35) rfl (Nat.le_of_ble_eq_true rfl) (Nat.le_of_ble_eq_true rfl) ?_
        refine am_steps ok_Ho_tick 1 (x' := (36, [some (.ref 0), some (.int a), none], [.int 4, .ref 9], h9, 0, 0)) rfl (Nat.le_of_ble_eq_true rfl) (Nat.le_of_ble_eq_true rfl) ?_
        obtain ⟨q15, hq16, hd17⟩ := Option.bind_eq_some_iff.mp hd; clear hd; have hd := hd17; clear hd17
        refine ar_cv ok_Ho_tick hk_Di_writeRecord rfl rfl (As := [.int 4]) (ad := 9) (rest := []) rfl rfl (hR11.ob (hs_k hR11 (a := 9) rfl) (Nat.le_of_ble_eq_true rfl)) (Nat.le_of_ble_eq_true rfl) (c_Di_writeRecord 4 q4 h9 hR11  q15 hq16) (Nat.le_of_ble_eq_true rfl) (Nat.le_of_ble_eq_true rfl) (Nat.le_of_ble_eq_true rfl) (Nat.le_of_ble_eq_true rfl) (pc' := 39) rfl (fun r18 h20 z19 => ?_)
        obtain ⟨rfl, hR22, g23, e24⟩ := z19
        have f25 := hF.tr f14 g23
        show am_S _ _ _ _ _ _ _ (39, [some (.ref 0), some (.int a), none], [.int q15.1], h20, 0, 0) _
        refine am_steps ok_Ho_tick 1 (x' := (if ¬ (q15.1 : Int32) = 0 then 44 else 42, [some (.ref 0), some (.int a), none], [], h20, 0, 0)) rfl (Nat.le_of_ble_eq_true rfl) (Nat.le_of_ble_eq_true rfl) ?_
        refine am_if (fun hc26 => ?_) (fun hc26 => ?_)
        · rw [if_pos hc26] at hd
          refine am_steps ok_Ho_tick 1 (x' := (45, [some (.ref 0), some (.int a), none], [.ref 0], h20, 0, 0)) rfl (Nat.le_of_ble_eq_true rfl) (Nat.le_of_ble_eq_true rfl) ?_
          refine hr_get ok_Ho_tick rfl hR22 (kd := 0) (hs_k hR22 (a := 0) rfl) rfl (Nat.le_of_ble_eq_true rfl) (Nat.le_of_ble_eq_true rfl) (v := .ref 20) (congrArg va_rf (hR22.2.2.2.2.1 (7, 0, 20) (by decide))) (pc' := 48) rfl (Nat.le_of_ble_eq_true rfl) (Nat.le_of_ble_eq_true rfl) ?_
          refine am_steps ok_Ho_tick 1 (x' := (49, [some (.ref 0), some (.int a), none], [.int a, .ref 20], h20, 0, 0)) rfl (Nat.le_of_ble_eq_true rfl) (Nat.le_of_ble_eq_true rfl) ?_
          obtain ⟨q27, hq28, hd29⟩ := Option.bind_eq_some_iff.mp hd; clear hd; have hd := hd29; clear hd29
          refine ar_cv ok_Ho_tick hk_De_letPass rfl rfl (As := [.int a]) (ad := 20) (rest := []) rfl rfl (hR22.ob (hs_k hR22 (a := 20) rfl) (Nat.le_of_ble_eq_true rfl)) (Nat.le_of_ble_eq_true rfl) (c_De_letPass a q15.2 h20 hR22  q27 hq28) (Nat.le_of_ble_eq_true rfl) (Nat.le_of_ble_eq_true rfl) (Nat.le_of_ble_eq_true rfl) (Nat.le_of_ble_eq_true rfl) (pc' := 52) rfl (fun r30 h32 z31 => ?_)
          obtain ⟨rfl, hR34, g35, e36⟩ := z31
          have f37 := hF.tr f25 g35
          show am_S _ _ _ _ _ _ _ (52, [some (.ref 0), some (.int a), none], [.int q27.1], h32, 0, 0) _
          refine am_steps ok_Ho_tick 3 (x' := (if (q27.1 : Int32) = 0 then 83 else 57, [some (.ref 0), some (.int a), some (.int q27.1)], [], h32, 0, 0)) rfl (Nat.le_of_ble_eq_true rfl) (Nat.le_of_ble_eq_true rfl) ?_
          refine am_if (fun hc38 => ?_) (fun hc38 => ?_)
          · rw [if_pos hc38] at hd
            refine am_steps ok_Ho_tick 1 (x' := (84, [some (.ref 0), some (.int a), some (.int q27.1)], [.ref 0], h32, 0, 0)) rfl (Nat.le_of_ble_eq_true rfl) (Nat.le_of_ble_eq_true rfl) ?_
            refine hr_get ok_Ho_tick rfl hR34 (kd := 0) (hs_k hR34 (a := 0) rfl) rfl (Nat.le_of_ble_eq_true rfl) (Nat.le_of_ble_eq_true rfl) (v := .ref 16) (congrArg va_rf (hR34.2.2.2.2.1 (6, 0, 16) (by decide))) (pc' := 87) rfl (Nat.le_of_ble_eq_true rfl) (Nat.le_of_ble_eq_true rfl) ?_
            refine am_steps ok_Ho_tick 1 (x' := (88, [some (.ref 0), some (.int a), some (.int q27.1)], [.ref 0, .ref 16], h32, 0, 0)) rfl (Nat.le_of_ble_eq_true rfl) (Nat.le_of_ble_eq_true rfl) ?_
            refine hr_get ok_Ho_tick rfl hR34 (kd := 0) (hs_k hR34 (a := 0) rfl) rfl (Nat.le_of_ble_eq_true rfl) (Nat.le_of_ble_eq_true rfl) (v := .ref 7) (congrArg va_rf (hR34.2.2.2.2.1 (3, 0, 7) (by decide))) (pc' := 91) rfl (Nat.le_of_ble_eq_true rfl) (Nat.le_of_ble_eq_true rfl) ?_
            obtain ⟨q39, hq40, hd41⟩ := Option.bind_eq_some_iff.mp hd; clear hd; have hd := hd41; clear hd41
            refine ar_cv ok_Ho_tick hk_Qu_tell rfl rfl (As := [.ref 7]) (ad := 16) (rest := []) rfl rfl (hR34.ob (hs_k hR34 (a := 16) rfl) (Nat.le_of_ble_eq_true rfl)) (Nat.le_of_ble_eq_true rfl) (c_Qu_tell  q27.2 h32 hR34  q39 hq40) (Nat.le_of_ble_eq_true rfl) (Nat.le_of_ble_eq_true rfl) (Nat.le_of_ble_eq_true rfl) (Nat.le_of_ble_eq_true rfl) (pc' := 94) rfl (fun r42 h44 z43 => ?_)
            obtain ⟨rfl, hR46, g47, e48⟩ := z43
            have f49 := hF.tr f37 g47
            show am_S _ _ _ _ _ _ _ (94, [some (.ref 0), some (.int a), some (.int q27.1)], [], h44, 0, 0) _
            refine am_steps ok_Ho_tick 1 (x' := (95, [some (.ref 0), some (.int a), some (.int q27.1)], [.int 1], h44, 0, 0)) rfl (Nat.le_of_ble_eq_true rfl) (Nat.le_of_ble_eq_true rfl) ?_
            cases hd; exact am_ret ok_Ho_tick rfl (Nat.le_of_ble_eq_true rfl) (Nat.le_of_ble_eq_true rfl) ⟨rfl, hR46, f49, ((((hE.rf.tr e13).tr e24).tr e36).tr e48)⟩
          · rw [if_neg hc38] at hd
            refine am_steps ok_Ho_tick 1 (x' := (58, [some (.ref 0), some (.int a), some (.int q27.1)], [.ref 0], h32, 0, 0)) rfl (Nat.le_of_ble_eq_true rfl) (Nat.le_of_ble_eq_true rfl) ?_
            refine hr_get ok_Ho_tick rfl hR34 (kd := 0) (hs_k hR34 (a := 0) rfl) rfl (Nat.le_of_ble_eq_true rfl) (Nat.le_of_ble_eq_true rfl) (v := .ref 9) (congrArg va_rf (hR34.2.2.2.2.1 (4, 0, 9) (by decide))) (pc' := 61) rfl (Nat.le_of_ble_eq_true rfl) (Nat.le_of_ble_eq_true rfl) ?_
            refine am_steps ok_Ho_tick 1 (x' := (62, [some (.ref 0), some (.int a), some (.int q27.1)], [.ref 0, .ref 9], h32, 0, 0)) rfl (Nat.le_of_ble_eq_true rfl) (Nat.le_of_ble_eq_true rfl) ?_
            refine hr_get ok_Ho_tick rfl hR34 (kd := 0) (hs_k hR34 (a := 0) rfl) rfl (Nat.le_of_ble_eq_true rfl) (Nat.le_of_ble_eq_true rfl) (v := .ref 10) (congrArg va_rf (hR34.2.2.2.2.1 (5, 0, 10) (by decide))) (pc' := 65) rfl (Nat.le_of_ble_eq_true rfl) (Nat.le_of_ble_eq_true rfl) ?_
            obtain ⟨q50, hq51, hd52⟩ := Option.bind_eq_some_iff.mp hd; clear hd; have hd := hd52; clear hd52
            refine ar_cv ok_Ho_tick hk_Bo_snapshotBytes rfl rfl (As := []) (ad := 10) (rest := [.ref 9]) rfl rfl (hR34.ob (hs_k hR34 (a := 10) rfl) (Nat.le_of_ble_eq_true rfl)) (Nat.le_of_ble_eq_true rfl) (c_Bo_snapshotBytes  q27.2 h32 hR34  q50 hq51) (Nat.le_of_ble_eq_true rfl) (Nat.le_of_ble_eq_true rfl) (Nat.le_of_ble_eq_true rfl) (Nat.le_of_ble_eq_true rfl) (pc' := 68) rfl (fun r53 h55 z54 => ?_)
            obtain ⟨rfl, z57⟩ := z54; rw [z57]
            show am_S _ _ _ _ _ _ _ (68, [some (.ref 0), some (.int a), some (.int q27.1)], [.int q50, .ref 9], h32, 0, 0) _
            obtain ⟨q58, hq59, hd60⟩ := Option.bind_eq_some_iff.mp hd; clear hd; have hd := hd60; clear hd60
            refine ar_cv ok_Ho_tick hk_Di_writeSnapshot rfl rfl (As := [.int q50]) (ad := 9) (rest := []) rfl rfl (hR34.ob (hs_k hR34 (a := 9) rfl) (Nat.le_of_ble_eq_true rfl)) (Nat.le_of_ble_eq_true rfl) (c_Di_writeSnapshot q50 q27.2 h32 hR34  q58 hq59) (Nat.le_of_ble_eq_true rfl) (Nat.le_of_ble_eq_true rfl) (Nat.le_of_ble_eq_true rfl) (Nat.le_of_ble_eq_true rfl) (pc' := 71) rfl (fun r61 h63 z62 => ?_)
            obtain ⟨rfl, hR65, g66, e67⟩ := z62
            have f68 := hF.tr f37 g66
            show am_S _ _ _ _ _ _ _ (71, [some (.ref 0), some (.int a), some (.int q27.1)], [.int q58.1], h63, 0, 0) _
            refine am_steps ok_Ho_tick 1 (x' := (if ¬ (q58.1 : Int32) = 0 then 83 else 74, [some (.ref 0), some (.int a), some (.int q27.1)], [], h63, 0, 0)) rfl (Nat.le_of_ble_eq_true rfl) (Nat.le_of_ble_eq_true rfl) ?_
            refine am_if (fun hc69 => ?_) (fun hc69 => ?_)
            · rw [if_pos hc69] at hd
              refine am_steps ok_Ho_tick 1 (x' := (84, [some (.ref 0), some (.int a), some (.int q27.1)], [.ref 0], h63, 0, 0)) rfl (Nat.le_of_ble_eq_true rfl) (Nat.le_of_ble_eq_true rfl) ?_
              refine hr_get ok_Ho_tick rfl hR65 (kd := 0) (hs_k hR65 (a := 0) rfl) rfl (Nat.le_of_ble_eq_true rfl) (Nat.le_of_ble_eq_true rfl) (v := .ref 16) (congrArg va_rf (hR65.2.2.2.2.1 (6, 0, 16) (by decide))) (pc' := 87) rfl (Nat.le_of_ble_eq_true rfl) (Nat.le_of_ble_eq_true rfl) ?_
              refine am_steps ok_Ho_tick 1 (x' := (88, [some (.ref 0), some (.int a), some (.int q27.1)], [.ref 0, .ref 16], h63, 0, 0)) rfl (Nat.le_of_ble_eq_true rfl) (Nat.le_of_ble_eq_true rfl) ?_
              refine hr_get ok_Ho_tick rfl hR65 (kd := 0) (hs_k hR65 (a := 0) rfl) rfl (Nat.le_of_ble_eq_true rfl) (Nat.le_of_ble_eq_true rfl) (v := .ref 7) (congrArg va_rf (hR65.2.2.2.2.1 (3, 0, 7) (by decide))) (pc' := 91) rfl (Nat.le_of_ble_eq_true rfl) (Nat.le_of_ble_eq_true rfl) ?_
              obtain ⟨q70, hq71, hd72⟩ := Option.bind_eq_some_iff.mp hd; clear hd; have hd := hd72; clear hd72
              refine ar_cv ok_Ho_tick hk_Qu_tell rfl rfl (As := [.ref 7]) (ad := 16) (rest := []) rfl rfl (hR65.ob (hs_k hR65 (a := 16) rfl) (Nat.le_of_ble_eq_true rfl)) (Nat.le_of_ble_eq_true rfl) (c_Qu_tell  q58.2 h63 hR65  q70 hq71) (Nat.le_of_ble_eq_true rfl) (Nat.le_of_ble_eq_true rfl) (Nat.le_of_ble_eq_true rfl) (Nat.le_of_ble_eq_true rfl) (pc' := 94) rfl (fun r73 h75 z74 => ?_)
              obtain ⟨rfl, hR77, g78, e79⟩ := z74
              have f80 := hF.tr f68 g78
              show am_S _ _ _ _ _ _ _ (94, [some (.ref 0), some (.int a), some (.int q27.1)], [], h75, 0, 0) _
              refine am_steps ok_Ho_tick 1 (x' := (95, [some (.ref 0), some (.int a), some (.int q27.1)], [.int 1], h75, 0, 0)) rfl (Nat.le_of_ble_eq_true rfl) (Nat.le_of_ble_eq_true rfl) ?_
              cases hd; exact am_ret ok_Ho_tick rfl (Nat.le_of_ble_eq_true rfl) (Nat.le_of_ble_eq_true rfl) ⟨rfl, hR77, f80, (((((hE.rf.tr e13).tr e24).tr e36).tr e67).tr e79)⟩
            · rw [if_neg hc69] at hd
              refine am_steps ok_Ho_tick 1 (x' := (75, [some (.ref 0), some (.int a), some (.int q27.1)], [.ref 0], h63, 0, 0)) rfl (Nat.le_of_ble_eq_true rfl) (Nat.le_of_ble_eq_true rfl) ?_
              refine hr_get ok_Ho_tick rfl hR65 (kd := 0) (hs_k hR65 (a := 0) rfl) rfl (Nat.le_of_ble_eq_true rfl) (Nat.le_of_ble_eq_true rfl) (v := .ref 16) (congrArg va_rf (hR65.2.2.2.2.1 (6, 0, 16) (by decide))) (pc' := 78) rfl (Nat.le_of_ble_eq_true rfl) (Nat.le_of_ble_eq_true rfl) ?_
              obtain ⟨q81, hq82, hd83⟩ := Option.bind_eq_some_iff.mp hd; clear hd; have hd := hd83; clear hd83
              refine ar_cv ok_Ho_tick hk_Qu_forgetTold rfl rfl (As := []) (ad := 16) (rest := []) rfl rfl (hR65.ob (hs_k hR65 (a := 16) rfl) (Nat.le_of_ble_eq_true rfl)) (Nat.le_of_ble_eq_true rfl) (c_Qu_forgetTold  q58.2 h63 hR65  q81 hq82) (Nat.le_of_ble_eq_true rfl) (Nat.le_of_ble_eq_true rfl) (Nat.le_of_ble_eq_true rfl) (Nat.le_of_ble_eq_true rfl) (pc' := 81) rfl (fun r84 h86 z85 => ?_)
              obtain ⟨rfl, hR88, g89, e90⟩ := z85
              have f91 := hF.tr f68 g89
              show am_S _ _ _ _ _ _ _ (81, [some (.ref 0), some (.int a), some (.int q27.1)], [], h86, 0, 0) _
              refine am_steps ok_Ho_tick 1 (x' := (82, [some (.ref 0), some (.int a), some (.int q27.1)], [.int 2], h86, 0, 0)) rfl (Nat.le_of_ble_eq_true rfl) (Nat.le_of_ble_eq_true rfl) ?_
              cases hd; exact am_ret ok_Ho_tick rfl (Nat.le_of_ble_eq_true rfl) (Nat.le_of_ble_eq_true rfl) ⟨rfl, hR88, f91, (((((hE.rf.tr e13).tr e24).tr e36).tr e67).tr e90)⟩
        · rw [if_neg hc26] at hd
          refine am_steps ok_Ho_tick 1 (x' := (43, [some (.ref 0), some (.int a), none], [.int 2], h20, 0, 0)) rfl (Nat.le_of_ble_eq_true rfl) (Nat.le_of_ble_eq_true rfl) ?_
          cases hd; exact am_ret ok_Ho_tick rfl (Nat.le_of_ble_eq_true rfl) (Nat.le_of_ble_eq_true rfl) ⟨rfl, hR22, f25, ((hE.rf.tr e13).tr e24)⟩
      · rw [if_neg hc3] at hd
        refine am_steps ok_Ho_tick 1 (x' := (23, [some (.ref 0), some (.int a), none], [.int 0], h0, 0, 0)) rfl (Nat.le_of_ble_eq_true rfl) (Nat.le_of_ble_eq_true rfl) ?_
        cases hd; exact am_ret ok_Ho_tick rfl (Nat.le_of_ble_eq_true rfl) (Nat.le_of_ble_eq_true rfl) ⟨rfl, hR, hF.rf, hE.rf⟩
