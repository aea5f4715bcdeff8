/-! Methods of the reference as functions of its state. -/
def l_Mo_short0_43 : Nat → Int32 → Int32 → Int32 → Int32 → mS → Option (mS)
  | 0, _, _, _, _, _ => none
  | fu + 1, v1, v2, v3, v4, s => if (v3 : Int32) ≤ v4 then (some s) else ((am_ix v4 16).bind fun j26 => ((d_Mo_touch (s.2.2.1 57 j26) s).bind fun q29 => ((am_ix (q29.2.2.1 57 j26) 81920).bind fun j38 => ((am_ix v2 250).bind fun j41 => ((d_Mo_net (q29.2.2.1 55 j41) (q29.2.2.1 57 j26) q29).bind fun q44 => (l_Mo_short0_43 fu v1 v2 v3 (v4 + 1) (mB q29 59 j38 ((q29.2.2.2 59 j38) + q44))))))))
set_option maxHeartbeats 4000000 in
set_option maxRecDepth 100000 in
theorem L_Mo_short0_43 {Q : Option Value → am_H → Prop} (h0 : am_H) : ∀ (fu : Nat) (v1 : Int32) (v2 : Int32) (v3 : Int32) (v4 : Int32) (s : mS) (h : am_H), RM s h → mF h0 h → ∀ q : mS, l_Mo_short0_43 fu v1 v2 v3 v4 s = some q → (∀ h' : am_H, RM q h' → mF h0 h' → am_S am_Pr none 3 79 0 0 70 (98, [some (.ref 22), some (.int v1), some (.int v2), some (.int v3), none], [], h', 0, 0) Q) → am_S am_Pr none 3 79 0 0 70 (43, [some (.ref 22), some (.int v1), some (.int v2), some (.int v3), some (.int v4)], [], h, 0, 0) Q := by
  intro fu
  induction fu with
  | zero => intro v1 v2 v3 v4 s h hM f q hd; cases hd
  | succ fu ih =>
    intro v1 v2 v3 v4 s h hM f q hd kk
    unfold l_Mo_short0_43 at hd
    refine am_steps ok_Mo_short0 3 (x' := (if (v3 : Int32) ≤ v4 then 98 else 49, [some (.ref 22), some (.int v1), some (.int v2), some (.int v3), some (.int v4)], [], h, 0, 0)) rfl (Nat.le_of_ble_eq_true rfl) (Nat.le_of_ble_eq_true rfl) ?_
    refine am_if (fun hc25 => ?_) (fun hc25 => ?_)
    · rw [if_pos hc25] at hd
      refine am_drop 4 ?_
      cases hd; exact kk h hM f
    · rw [if_neg hc25] at hd
      refine am_steps ok_Mo_short0 2 (x' := (51, [some (.ref 22), some (.int v1), some (.int v2), some (.int v3), some (.int v4)], [.ref 22, .ref 22], h, 0, 0)) rfl (Nat.le_of_ble_eq_true rfl) (Nat.le_of_ble_eq_true rfl) ?_
      refine mr_get ok_Mo_short0 rfl hM (v := .ref 57) rfl (pc' := 54) rfl (Nat.le_of_ble_eq_true rfl) (Nat.le_of_ble_eq_true rfl) ?_
      refine am_steps ok_Mo_short0 1 (x' := (56, [some (.ref 22), some (.int v1), some (.int v2), some (.int v3), some (.int v4)], [.int v4, .ref 57, .ref 22], h, 0, 0)) rfl (Nat.le_of_ble_eq_true rfl) (Nat.le_of_ble_eq_true rfl) ?_
      obtain ⟨j26, hx27, hd28⟩ := Option.bind_eq_some_iff.mp hd; clear hd; have hd := hd28; clear hd28
      refine mr_iald ok_Mo_short0 rfl hM (N := 16) (by decide) hx27 (pc' := 57) rfl (Nat.le_of_ble_eq_true rfl) (Nat.le_of_ble_eq_true rfl) ?_
      obtain ⟨q29, hq30, hd31⟩ := Option.bind_eq_some_iff.mp hd; clear hd; have hd := hd31; clear hd31
      refine ar_cv ok_Mo_short0 hk_Mo_touch rfl rfl (As := [.int (s.2.2.1 57 j26)]) (ad := 22) (rest := []) rfl rfl hM.1 (Nat.le_of_ble_eq_true rfl) (k_Mo_touch (s.2.2.1 57 j26) s h hM q29 hq30) (Nat.le_of_ble_eq_true rfl) (Nat.le_of_ble_eq_true rfl) (Nat.le_of_ble_eq_true rfl) (Nat.le_of_ble_eq_true rfl) (pc' := 60) rfl (fun r32 h34 z33 => ?_)
      obtain ⟨rfl, hM35, g37⟩ := z33
      have f36 := mF.tr f g37
      show am_S _ _ _ _ _ _ _ (60, [some (.ref 22), some (.int v1), some (.int v2), some (.int v3), some (.int v4)], [], h34, 0, 0) _
      refine am_steps ok_Mo_short0 1 (x' := (61, [some (.ref 22), some (.int v1), some (.int v2), some (.int v3), some (.int v4)], [.ref 22], h34, 0, 0)) rfl (Nat.le_of_ble_eq_true rfl) (Nat.le_of_ble_eq_true rfl) ?_
      refine mr_get ok_Mo_short0 rfl hM35 (v := .ref 59) rfl (pc' := 64) rfl (Nat.le_of_ble_eq_true rfl) (Nat.le_of_ble_eq_true rfl) ?_
      refine am_steps ok_Mo_short0 1 (x' := (65, [some (.ref 22), some (.int v1), some (.int v2), some (.int v3), some (.int v4)], [.ref 22, .ref 59], h34, 0, 0)) rfl (Nat.le_of_ble_eq_true rfl) (Nat.le_of_ble_eq_true rfl) ?_
      refine mr_get ok_Mo_short0 rfl hM35 (v := .ref 57) rfl (pc' := 68) rfl (Nat.le_of_ble_eq_true rfl) (Nat.le_of_ble_eq_true rfl) ?_
      refine am_steps ok_Mo_short0 1 (x' := (70, [some (.ref 22), some (.int v1), some (.int v2), some (.int v3), some (.int v4)], [.int v4, .ref 57, .ref 59], h34, 0, 0)) rfl (Nat.le_of_ble_eq_true rfl) (Nat.le_of_ble_eq_true rfl) ?_
      refine mr_iald ok_Mo_short0 rfl hM35 (N := 16) (by decide) hx27 (pc' := 71) rfl (Nat.le_of_ble_eq_true rfl) (Nat.le_of_ble_eq_true rfl) ?_
      refine am_steps ok_Mo_short0 1 (x' := (72, [some (.ref 22), some (.int v1), some (.int v2), some (.int v3), some (.int v4)], [.int (q29.2.2.1 57 j26), .ref 59, .int (q29.2.2.1 57 j26), .ref 59], h34, 0, 0)) rfl (Nat.le_of_ble_eq_true rfl) (Nat.le_of_ble_eq_true rfl) ?_
      obtain ⟨j38, hx39, hd40⟩ := Option.bind_eq_some_iff.mp hd; clear hd; have hd := hd40; clear hd40
      refine mr_lald ok_Mo_short0 rfl hM35 (N := 81920) (by decide) hx39 (pc' := 73) rfl (Nat.le_of_ble_eq_true rfl) (Nat.le_of_ble_eq_true rfl) ?_
      refine am_steps ok_Mo_short0 2 (x' := (75, [some (.ref 22), some (.int v1), some (.int v2), some (.int v3), some (.int v4)], [.ref 22, .ref 22, .long (q29.2.2.2 59 j38), .int (q29.2.2.1 57 j26), .ref 59], h34, 0, 0)) rfl (Nat.le_of_ble_eq_true rfl) (Nat.le_of_ble_eq_true rfl) ?_
      refine mr_get ok_Mo_short0 rfl hM35 (v := .ref 55) rfl (pc' := 78) rfl (Nat.le_of_ble_eq_true rfl) (Nat.le_of_ble_eq_true rfl) ?_
      refine am_steps ok_Mo_short0 1 (x' := (79, [some (.ref 22), some (.int v1), some (.int v2), some (.int v3), some (.int v4)], [.int v2, .ref 55, .ref 22, .long (q29.2.2.2 59 j38), .int (q29.2.2.1 57 j26), .ref 59], h34, 0, 0)) rfl (Nat.le_of_ble_eq_true rfl) (Nat.le_of_ble_eq_true rfl) ?_
      obtain ⟨j41, hx42, hd43⟩ := Option.bind_eq_some_iff.mp hd; clear hd; have hd := hd43; clear hd43
      refine mr_iald ok_Mo_short0 rfl hM35 (N := 250) (by decide) hx42 (pc' := 80) rfl (Nat.le_of_ble_eq_true rfl) (Nat.le_of_ble_eq_true rfl) ?_
      refine am_steps ok_Mo_short0 1 (x' := (81, [some (.ref 22), some (.int v1), some (.int v2), some (.int v3), some (.int v4)], [.ref 22, .int (q29.2.2.1 55 j41), .ref 22, .long (q29.2.2.2 59 j38), .int (q29.2.2.1 57 j26), .ref 59], h34, 0, 0)) rfl (Nat.le_of_ble_eq_true rfl) (Nat.le_of_ble_eq_true rfl) ?_
      refine mr_get ok_Mo_short0 rfl hM35 (v := .ref 57) rfl (pc' := 84) rfl (Nat.le_of_ble_eq_true rfl) (Nat.le_of_ble_eq_true rfl) ?_
      refine am_steps ok_Mo_short0 1 (x' := (86, [some (.ref 22), some (.int v1), some (.int v2), some (.int v3), some (.int v4)], [.int v4, .ref 57, .int (q29.2.2.1 55 j41), .ref 22, .long (q29.2.2.2 59 j38), .int (q29.2.2.1 57 j26), .ref 59], h34, 0, 0)) rfl (Nat.le_of_ble_eq_true rfl) (Nat.le_of_ble_eq_true rfl) ?_
      refine mr_iald ok_Mo_short0 rfl hM35 (N := 16) (by decide) hx27 (pc' := 87) rfl (Nat.le_of_ble_eq_true rfl) (Nat.le_of_ble_eq_true rfl) ?_
      obtain ⟨q44, hq45, hd46⟩ := Option.bind_eq_some_iff.mp hd; clear hd; have hd := hd46; clear hd46
      refine ar_cv ok_Mo_short0 hk_Mo_net rfl rfl (As := [.int (q29.2.2.1 55 j41), .int (q29.2.2.1 57 j26)]) (ad := 22) (rest := [.long (q29.2.2.2 59 j38), .int (q29.2.2.1 57 j26), .ref 59]) rfl rfl hM35.1 (Nat.le_of_ble_eq_true rfl) (k_Mo_net (q29.2.2.1 55 j41) (q29.2.2.1 57 j26) q29 h34 hM35 q44 hq45) (Nat.le_of_ble_eq_true rfl) (Nat.le_of_ble_eq_true rfl) (Nat.le_of_ble_eq_true rfl) (Nat.le_of_ble_eq_true rfl) (pc' := 90) rfl (fun r47 h49 z48 => ?_)
      obtain ⟨z53, z54⟩ := z48; subst z53; rw [z54]
      show am_S _ _ _ _ _ _ _ (90, [some (.ref 22), some (.int v1), some (.int v2), some (.int v3), some (.int v4)], [.long q44, .long (q29.2.2.2 59 j38), .int (q29.2.2.1 57 j26), .ref 59], h34, 0, 0) _
      refine am_steps ok_Mo_short0 1 (x' := (91, [some (.ref 22), some (.int v1), some (.int v2), some (.int v3), some (.int v4)], [.long ((q29.2.2.2 59 j38) + q44), .int (q29.2.2.1 57 j26), .ref 59], h34, 0, 0)) rfl (Nat.le_of_ble_eq_true rfl) (Nat.le_of_ble_eq_true rfl) ?_
      refine mr_last ok_Mo_short0 rfl hM35 (N := 81920) (by decide) hx39 (pc' := 92) rfl (Nat.le_of_ble_eq_true rfl) (Nat.le_of_ble_eq_true rfl) (fun h55 hM56 g58 => ?_)
      have f57 := mF.tr f36 g58
      refine am_steps ok_Mo_short0 2 (x' := (43, [some (.ref 22), some (.int v1), some (.int v2), some (.int v3), some (.int (v4 + 1))], [], h55, 0, 0)) rfl (Nat.le_of_ble_eq_true rfl) (Nat.le_of_ble_eq_true rfl) ?_
      exact ih v1 v2 v3 (v4 + 1) (mB q29 59 j38 ((q29.2.2.2 59 j38) + q44)) h55 hM56 f57 q hd kk
def l_Mo_short0_4 : Nat → Int32 → Int32 → mS → Option (mS)
  | 0, _, _, _ => none
  | fu + 1, v1, v2, s => if ((s.1 32) : Int32) ≤ v2 then (some s) else ((am_ix v2 250).bind fun j2 => ((am_ix (s.2.2.1 55 j2) 250).bind fun j5 => ((if ¬ ((s.2.2.1 49 j5) : Int32) = 0 then ((d_Mo_places (s.2.2.1 55 j2) s).bind fun q16 => ((l_Mo_short0_43 100000 v1 v2 q16.1 0 q16.2).bind fun q59 => (some q59))) else (some s)).bind fun (u8 : mS) => (l_Mo_short0_4 fu v1 (v2 + 1) u8))))
set_option maxHeartbeats 4000000 in
set_option maxRecDepth 100000 in
theorem L_Mo_short0_4 {Q : Option Value → am_H → Prop} (h0 : am_H) : ∀ (fu : Nat) (v1 : Int32) (v2 : Int32) (s : mS) (h : am_H), RM s h → mF h0 h → ∀ q : mS, l_Mo_short0_4 fu v1 v2 s = some q → (∀ h' : am_H, RM q h' → mF h0 h' → am_S am_Pr none 3 79 0 0 70 (104, [some (.ref 22), some (.int v1), none, none, none], [], h', 0, 0) Q) → am_S am_Pr none 3 79 0 0 70 (4, [some (.ref 22), some (.int v1), some (.int v2), none, none], [], h, 0, 0) Q := by
  intro fu
  induction fu with
  | zero => intro v1 v2 s h hM f q hd; cases hd
  | succ fu ih =>
    intro v1 v2 s h hM f q hd kk
    unfold l_Mo_short0_4 at hd
    refine am_steps ok_Mo_short0 2 (x' := (6, [some (.ref 22), some (.int v1), some (.int v2), none, none], [.ref 22, .int v2], h, 0, 0)) rfl (Nat.le_of_ble_eq_true rfl) (Nat.le_of_ble_eq_true rfl) ?_
    refine mr_get ok_Mo_short0 rfl hM (v := .int (s.1 32)) rfl (pc' := 9) rfl (Nat.le_of_ble_eq_true rfl) (Nat.le_of_ble_eq_true rfl) ?_
    refine am_steps ok_Mo_short0 1 (x' := (if ((s.1 32) : Int32) ≤ v2 then 104 else 12, [some (.ref 22), some (.int v1), some (.int v2), none, none], [], h, 0, 0)) rfl (Nat.le_of_ble_eq_true rfl) (Nat.le_of_ble_eq_true rfl) ?_
    refine am_if (fun hc1 => ?_) (fun hc1 => ?_)
    · rw [if_pos hc1] at hd
      refine am_drop 2 ?_
      cases hd; exact kk h hM f
    · rw [if_neg hc1] at hd
      refine am_steps ok_Mo_short0 1 (x' := (13, [some (.ref 22), some (.int v1), some (.int v2), none, none], [.ref 22], h, 0, 0)) rfl (Nat.le_of_ble_eq_true rfl) (Nat.le_of_ble_eq_true rfl) ?_
      refine mr_get ok_Mo_short0 rfl hM (v := .ref 49) rfl (pc' := 16) rfl (Nat.le_of_ble_eq_true rfl) (Nat.le_of_ble_eq_true rfl) ?_
      refine am_steps ok_Mo_short0 1 (x' := (17, [some (.ref 22), some (.int v1), some (.int v2), none, none], [.ref 22, .ref 49], h, 0, 0)) rfl (Nat.le_of_ble_eq_true rfl) (Nat.le_of_ble_eq_true rfl) ?_
      refine mr_get ok_Mo_short0 rfl hM (v := .ref 55) rfl (pc' := 20) rfl (Nat.le_of_ble_eq_true rfl) (Nat.le_of_ble_eq_true rfl) ?_
      refine am_steps ok_Mo_short0 1 (x' := (21, [some (.ref 22), some (.int v1), some (.int v2), none, none], [.int v2, .ref 55, .ref 49], h, 0, 0)) rfl (Nat.le_of_ble_eq_true rfl) (Nat.le_of_ble_eq_true rfl) ?_
      obtain ⟨j2, hx3, hd4⟩ := Option.bind_eq_some_iff.mp hd; clear hd; have hd := hd4; clear hd4
      refine mr_iald ok_Mo_short0 rfl hM (N := 250) (by decide) hx3 (pc' := 22) rfl (Nat.le_of_ble_eq_true rfl) (Nat.le_of_ble_eq_true rfl) ?_
      obtain ⟨j5, hx6, hd7⟩ := Option.bind_eq_some_iff.mp hd; clear hd; have hd := hd7; clear hd7
      refine mr_bald ok_Mo_short0 rfl hM (N := 250) (by decide) (Or.inr rfl) hx6 (pc' := 23) rfl (Nat.le_of_ble_eq_true rfl) (Nat.le_of_ble_eq_true rfl) ?_
      refine am_steps ok_Mo_short0 1 (x' := (if ¬ ((s.2.2.1 49 j5) : Int32) = 0 then 29 else 26, [some (.ref 22), some (.int v1), some (.int v2), none, none], [], h, 0, 0)) rfl (Nat.le_of_ble_eq_true rfl) (Nat.le_of_ble_eq_true rfl) ?_
      obtain ⟨u8, hA10, hB11⟩ := Option.bind_eq_some_iff.mp hd; clear hd
      have K9 : ∀ h' : am_H, RM u8 h' → mF h0 h' → am_S am_Pr none 3 79 0 0 70 (98, [some (.ref 22), some (.int v1), some (.int v2), none, none], [], h', 0, 0) Q := by
        have hd := hB11
        intro h12 hM13 f14
        refine am_steps ok_Mo_short0 2 (x' := (4, [some (.ref 22), some (.int v1), some (.int (v2 + 1)), none, none], [], h12, 0, 0)) rfl (Nat.le_of_ble_eq_true rfl) (Nat.le_of_ble_eq_true rfl) ?_
        exact ih v1 (v2 + 1) u8 h12 hM13 f14 q hd kk
      clear hB11; have hd := hA10; clear hA10
      refine am_if (fun hc15 => ?_) (fun hc15 => ?_)
      · rw [if_pos hc15] at hd
        refine am_steps ok_Mo_short0 2 (x' := (31, [some (.ref 22), some (.int v1), some (.int v2), none, none], [.ref 22, .ref 22], h, 0, 0)) rfl (Nat.le_of_ble_eq_true rfl) (Nat.le_of_ble_eq_true rfl) ?_
        refine mr_get ok_Mo_short0 rfl hM (v := .ref 55) rfl (pc' := 34) rfl (Nat.le_of_ble_eq_true rfl) (Nat.le_of_ble_eq_true rfl) ?_
        refine am_steps ok_Mo_short0 1 (x' := (35, [some (.ref 22), some (.int v1), some (.int v2), none, none], [.int v2, .ref 55, .ref 22], h, 0, 0)) rfl (Nat.le_of_ble_eq_true rfl) (Nat.le_of_ble_eq_true rfl) ?_
        refine mr_iald ok_Mo_short0 rfl hM (N := 250) (by decide) hx3 (pc' := 36) rfl (Nat.le_of_ble_eq_true rfl) (Nat.le_of_ble_eq_true rfl) ?_
        obtain ⟨q16, hq17, hd18⟩ := Option.bind_eq_some_iff.mp hd; clear hd; have hd := hd18; clear hd18
        refine ar_cv ok_Mo_short0 hk_Mo_places rfl rfl (As := [.int (s.2.2.1 55 j2)]) (ad := 22) (rest := []) rfl rfl hM.1 (Nat.le_of_ble_eq_true rfl) (k_Mo_places (s.2.2.1 55 j2) s h hM q16 hq17) (Nat.le_of_ble_eq_true rfl) (Nat.le_of_ble_eq_true rfl) (Nat.le_of_ble_eq_true rfl) (Nat.le_of_ble_eq_true rfl) (pc' := 39) rfl (fun r19 h21 z20 => ?_)
        obtain ⟨rfl, hM22, g24⟩ := z20
        have f23 := mF.tr f g24
        show am_S _ _ _ _ _ _ _ (39, [some (.ref 22), some (.int v1), some (.int v2), none, none], [.int q16.1], h21, 0, 0) _
        refine am_steps ok_Mo_short0 3 (x' := (43, [some (.ref 22), some (.int v1), some (.int v2), some (.int q16.1), some (.int 0)], [], h21, 0, 0)) rfl (Nat.le_of_ble_eq_true rfl) (Nat.le_of_ble_eq_true rfl) ?_
        obtain ⟨q59, hq60, hd61⟩ := Option.bind_eq_some_iff.mp hd; clear hd; have hd := hd61; clear hd61
        refine L_Mo_short0_43 h0 100000 v1 v2 q16.1 0 q16.2 h21 hM22 f23 q59 hq60 (fun h62 hM63 f64 => ?_)
        show am_S _ _ _ _ _ _ _ (98, [some (.ref 22), some (.int v1), some (.int v2), some (.int q16.1), none], [], h62, 0, 0) _
        refine am_drop 3 ?_
        cases hd; exact K9 h62 hM63 f64
      · rw [if_neg hc15] at hd
        refine am_steps ok_Mo_short0 1 (x' := (98, [some (.ref 22), some (.int v1), some (.int v2), none, none], [], h, 0, 0)) rfl (Nat.le_of_ble_eq_true rfl) (Nat.le_of_ble_eq_true rfl) ?_
        cases hd; exact K9 h hM f
def l_Mo_short0_106 : Nat → Int32 → Int32 → mS → Option (Int32)
  | 0, _, _, _ => none
  | fu + 1, v1, v2, s => if ((s.1 48) : Int32) ≤ v2 then (some v1) else ((am_ix v2 4096).bind fun j72 => ((if ((s.2.2.1 56 j72) : Int32) < 64 then (some v1) else ((am_ix (s.2.2.1 56 j72) 81920).bind fun j80 => (if (0 : Int32) ≤ (lg_cmp (s.2.2.2 59 j80) 0) then (some v1) else ((d_Mo_value (s.2.2.1 56 j72) s).bind fun q84 => ((d_Mo_floor (s.2.2.1 56 j72) s).bind fun q95 => (if (0 : Int32) ≤ (lg_cmp (q84 + (s.2.2.2 59 j80)) q95) then (some v1) else (some (s.2.2.1 56 j72)))))))).bind fun (u75 : Int32) => (l_Mo_short0_106 fu u75 (v2 + 1) s)))
set_option maxHeartbeats 4000000 in
set_option maxRecDepth 100000 in
theorem L_Mo_short0_106 {Q : Option Value → am_H → Prop} (s : mS) (h : am_H) (hM : RM s h) : ∀ (fu : Nat) (v1 : Int32) (v2 : Int32) (q : Int32), l_Mo_short0_106 fu v1 v2 s = some q → am_S am_Pr none 3 79 0 0 70 (167, [some (.ref 22), some (.int q), none, none, none], [], h, 0, 0) Q → am_S am_Pr none 3 79 0 0 70 (106, [some (.ref 22), some (.int v1), some (.int v2), none, none], [], h, 0, 0) Q := by
  intro fu
  induction fu with
  | zero => intro v1 v2 q hd; cases hd
  | succ fu ih =>
    intro v1 v2 q hd kk
    unfold l_Mo_short0_106 at hd
    refine am_steps ok_Mo_short0 2 (x' := (108, [some (.ref 22), some (.int v1), some (.int v2), none, none], [.ref 22, .int v2], h, 0, 0)) rfl (Nat.le_of_ble_eq_true rfl) (Nat.le_of_ble_eq_true rfl) ?_
    refine mr_get ok_Mo_short0 rfl hM (v := .int (s.1 48)) rfl (pc' := 111) rfl (Nat.le_of_ble_eq_true rfl) (Nat.le_of_ble_eq_true rfl) ?_
    refine am_steps ok_Mo_short0 1 (x' := (if ((s.1 48) : Int32) ≤ v2 then 167 else 114, [some (.ref 22), some (.int v1), some (.int v2), none, none], [], h, 0, 0)) rfl (Nat.le_of_ble_eq_true rfl) (Nat.le_of_ble_eq_true rfl) ?_
    refine am_if (fun hc71 => ?_) (fun hc71 => ?_)
    · rw [if_pos hc71] at hd
      refine am_drop 2 ?_
      cases hd; exact kk
    · rw [if_neg hc71] at hd
      refine am_steps ok_Mo_short0 1 (x' := (115, [some (.ref 22), some (.int v1), some (.int v2), none, none], [.ref 22], h, 0, 0)) rfl (Nat.le_of_ble_eq_true rfl) (Nat.le_of_ble_eq_true rfl) ?_
      refine mr_get ok_Mo_short0 rfl hM (v := .ref 56) rfl (pc' := 118) rfl (Nat.le_of_ble_eq_true rfl) (Nat.le_of_ble_eq_true rfl) ?_
      refine am_steps ok_Mo_short0 1 (x' := (119, [some (.ref 22), some (.int v1), some (.int v2), none, none], [.int v2, .ref 56], h, 0, 0)) rfl (Nat.le_of_ble_eq_true rfl) (Nat.le_of_ble_eq_true rfl) ?_
      obtain ⟨j72, hx73, hd74⟩ := Option.bind_eq_some_iff.mp hd; clear hd; have hd := hd74; clear hd74
      refine mr_iald ok_Mo_short0 rfl hM (N := 4096) (by decide) hx73 (pc' := 120) rfl (Nat.le_of_ble_eq_true rfl) (Nat.le_of_ble_eq_true rfl) ?_
      refine am_steps ok_Mo_short0 4 (x' := (if ((s.2.2.1 56 j72) : Int32) < 64 then 161 else 127, [some (.ref 22), some (.int v1), some (.int v2), some (.int (s.2.2.1 56 j72)), none], [], h, 0, 0)) rfl (Nat.le_of_ble_eq_true rfl) (Nat.le_of_ble_eq_true rfl) ?_
      obtain ⟨u75, hA77, hB78⟩ := Option.bind_eq_some_iff.mp hd; clear hd
      have K76 : am_S am_Pr none 3 79 0 0 70 (161, [some (.ref 22), some (.int u75), some (.int v2), none, none], [], h, 0, 0) Q := by
        have hd := hB78
        refine am_steps ok_Mo_short0 2 (x' := (106, [some (.ref 22), some (.int u75), some (.int (v2 + 1)), none, none], [], h, 0, 0)) rfl (Nat.le_of_ble_eq_true rfl) (Nat.le_of_ble_eq_true rfl) ?_
        exact ih u75 (v2 + 1) q hd kk
      clear hB78; have hd := hA77; clear hA77
      refine am_if (fun hc79 => ?_) (fun hc79 => ?_)
      · rw [if_pos hc79] at hd
        refine am_drop 3 ?_
        cases hd; exact K76 
      · rw [if_neg hc79] at hd
        refine am_steps ok_Mo_short0 1 (x' := (128, [some (.ref 22), some (.int v1), some (.int v2), some (.int (s.2.2.1 56 j72)), none], [.ref 22], h, 0, 0)) rfl (Nat.le_of_ble_eq_true rfl) (Nat.le_of_ble_eq_true rfl) ?_
        refine mr_get ok_Mo_short0 rfl hM (v := .ref 59) rfl (pc' := 131) rfl (Nat.le_of_ble_eq_true rfl) (Nat.le_of_ble_eq_true rfl) ?_
        refine am_steps ok_Mo_short0 1 (x' := (132, [some (.ref 22), some (.int v1), some (.int v2), some (.int (s.2.2.1 56 j72)), none], [.int (s.2.2.1 56 j72), .ref 59], h, 0, 0)) rfl (Nat.le_of_ble_eq_true rfl) (Nat.le_of_ble_eq_true rfl) ?_
        obtain ⟨j80, hx81, hd82⟩ := Option.bind_eq_some_iff.mp hd; clear hd; have hd := hd82; clear hd82
        refine mr_lald ok_Mo_short0 rfl hM (N := 81920) (by decide) hx81 (pc' := 133) rfl (Nat.le_of_ble_eq_true rfl) (Nat.le_of_ble_eq_true rfl) ?_
        refine am_steps ok_Mo_short0 3 (x' := (if (0 : Int32) ≤ (lg_cmp (s.2.2.2 59 j80) 0) then 161 else 138, [some (.ref 22), some (.int v1), some (.int v2), some (.int (s.2.2.1 56 j72)), none], [], h, 0, 0)) rfl (Nat.le_of_ble_eq_true rfl) (Nat.le_of_ble_eq_true rfl) ?_
        refine am_if (fun hc83 => ?_) (fun hc83 => ?_)
        · rw [if_pos hc83] at hd
          refine am_drop 3 ?_
          cases hd; exact K76 
        · rw [if_neg hc83] at hd
          refine am_steps ok_Mo_short0 2 (x' := (140, [some (.ref 22), some (.int v1), some (.int v2), some (.int (s.2.2.1 56 j72)), none], [.int (s.2.2.1 56 j72), .ref 22], h, 0, 0)) rfl (Nat.le_of_ble_eq_true rfl) (Nat.le_of_ble_eq_true rfl) ?_
          obtain ⟨q84, hq85, hd86⟩ := Option.bind_eq_some_iff.mp hd; clear hd; have hd := hd86; clear hd86
          refine ar_cv ok_Mo_short0 hk_Mo_value rfl rfl (As := [.int (s.2.2.1 56 j72)]) (ad := 22) (rest := []) rfl rfl hM.1 (Nat.le_of_ble_eq_true rfl) (k_Mo_value (s.2.2.1 56 j72) s h hM q84 hq85) (Nat.le_of_ble_eq_true rfl) (Nat.le_of_ble_eq_true rfl) (Nat.le_of_ble_eq_true rfl) (Nat.le_of_ble_eq_true rfl) (pc' := 143) rfl (fun r87 h89 z88 => ?_)
          obtain ⟨z93, z94⟩ := z88; subst z93; rw [z94]
          show am_S _ _ _ _ _ _ _ (143, [some (.ref 22), some (.int v1), some (.int v2), some (.int (s.2.2.1 56 j72)), none], [.long q84], h, 0, 0) _
          refine am_steps ok_Mo_short0 1 (x' := (144, [some (.ref 22), some (.int v1), some (.int v2), some (.int (s.2.2.1 56 j72)), none], [.ref 22, .long q84], h, 0, 0)) rfl (Nat.le_of_ble_eq_true rfl) (Nat.le_of_ble_eq_true rfl) ?_
          refine mr_get ok_Mo_short0 rfl hM (v := .ref 59) rfl (pc' := 147) rfl (Nat.le_of_ble_eq_true rfl) (Nat.le_of_ble_eq_true rfl) ?_
          refine am_steps ok_Mo_short0 1 (x' := (148, [some (.ref 22), some (.int v1), some (.int v2), some (.int (s.2.2.1 56 j72)), none], [.int (s.2.2.1 56 j72), .ref 59, .long q84], h, 0, 0)) rfl (Nat.le_of_ble_eq_true rfl) (Nat.le_of_ble_eq_true rfl) ?_
          refine mr_lald ok_Mo_short0 rfl hM (N := 81920) (by decide) hx81 (pc' := 149) rfl (Nat.le_of_ble_eq_true rfl) (Nat.le_of_ble_eq_true rfl) ?_
          refine am_steps ok_Mo_short0 3 (x' := (152, [some (.ref 22), some (.int v1), some (.int v2), some (.int (s.2.2.1 56 j72)), none], [.int (s.2.2.1 56 j72), .ref 22, .long (q84 + (s.2.2.2 59 j80))], h, 0, 0)) rfl (Nat.le_of_ble_eq_true rfl) (Nat.le_of_ble_eq_true rfl) ?_
          obtain ⟨q95, hq96, hd97⟩ := Option.bind_eq_some_iff.mp hd; clear hd; have hd := hd97; clear hd97
          refine ar_cv ok_Mo_short0 hk_Mo_floor rfl rfl (As := [.int (s.2.2.1 56 j72)]) (ad := 22) (rest := [.long (q84 + (s.2.2.2 59 j80))]) rfl rfl hM.1 (Nat.le_of_ble_eq_true rfl) (k_Mo_floor (s.2.2.1 56 j72) s h hM q95 hq96) (Nat.le_of_ble_eq_true rfl) (Nat.le_of_ble_eq_true rfl) (Nat.le_of_ble_eq_true rfl) (Nat.le_of_ble_eq_true rfl) (pc' := 155) rfl (fun r98 h100 z99 => ?_)
          obtain ⟨z104, z105⟩ := z99; subst z104; rw [z105]
          show am_S _ _ _ _ _ _ _ (155, [some (.ref 22), some (.int v1), some (.int v2), some (.int (s.2.2.1 56 j72)), none], [.long q95, .long (q84 + (s.2.2.2 59 j80))], h, 0, 0) _
          refine am_steps ok_Mo_short0 2 (x' := (if (0 : Int32) ≤ (lg_cmp (q84 + (s.2.2.2 59 j80)) q95) then 161 else 159, [some (.ref 22), some (.int v1), some (.int v2), some (.int (s.2.2.1 56 j72)), none], [], h, 0, 0)) rfl (Nat.le_of_ble_eq_true rfl) (Nat.le_of_ble_eq_true rfl) ?_
          refine am_if (fun hc106 => ?_) (fun hc106 => ?_)
          · rw [if_pos hc106] at hd
            refine am_drop 3 ?_
            cases hd; exact K76 
          · rw [if_neg hc106] at hd
            refine am_steps ok_Mo_short0 2 (x' := (161, [some (.ref 22), some (.int (s.2.2.1 56 j72)), some (.int v2), some (.int (s.2.2.1 56 j72)), none], [], h, 0, 0)) rfl (Nat.le_of_ble_eq_true rfl) (Nat.le_of_ble_eq_true rfl) ?_
            refine am_drop 3 ?_
            cases hd; exact K76 
def d_Mo_short0  (s : mS) : Option (Int32 × mS) := (l_Mo_short0_4 100000 (-1) 0 s).bind fun q65 => ((l_Mo_short0_106 100000 (-1) 0 q65).bind fun q107 => ((d_Mo_untouch  q65).bind fun q110 => (some (q107, q110))))
set_option maxHeartbeats 4000000 in
set_option maxRecDepth 100000 in
theorem k_Mo_short0  (s : mS) (h0 : am_H) (hM : RM s h0) (q : Int32 × mS) (hd : d_Mo_short0  s = some q) : am_Me am_Pr none 3 79 0 0 70 [.ref 22] h0 (mQr (.int q.1) q.2 h0) := by
  refine am_enter (d := hd_Mo_short0) rfl (by decide +kernel) (Nat.le_of_ble_eq_true rfl) ?_
  show am_S _ _ _ _ _ _ _ (0, [some (.ref 22), none, none, none, none], [], h0, 0, 0) _
  unfold d_Mo_short0 at hd
  refine am_steps ok_Mo_short0 4 (x' := (4, [some (.ref 22), some (.int (-1)), some (.int 0), none, none], [], h0, 0, 0)) rfl (Nat.le_of_ble_eq_true rfl) (Nat.le_of_ble_eq_true rfl) ?_
  obtain ⟨q65, hq66, hd67⟩ := Option.bind_eq_some_iff.mp hd; clear hd; have hd := hd67; clear hd67
  refine L_Mo_short0_4 h0 100000 (-1) 0 s h0 hM (mF.rf) q65 hq66 (fun h68 hM69 f70 => ?_)
  show am_S _ _ _ _ _ _ _ (104, [some (.ref 22), some (.int (-1)), none, none, none], [], h68, 0, 0) _
  refine am_steps ok_Mo_short0 2 (x' := (106, [some (.ref 22), some (.int (-1)), some (.int 0), none, none], [], h68, 0, 0)) rfl (Nat.le_of_ble_eq_true rfl) (Nat.le_of_ble_eq_true rfl) ?_
  obtain ⟨q107, hq108, hd109⟩ := Option.bind_eq_some_iff.mp hd; clear hd; have hd := hd109; clear hd109
  refine L_Mo_short0_106 q65 h68 hM69 100000 (-1) 0 q107 hq108 ?_
  show am_S _ _ _ _ _ _ _ (167, [some (.ref 22), some (.int q107), none, none, none], [], h68, 0, 0) _
  refine am_steps ok_Mo_short0 1 (x' := (168, [some (.ref 22), some (.int q107), none, none, none], [.ref 22], h68, 0, 0)) rfl (Nat.le_of_ble_eq_true rfl) (Nat.le_of_ble_eq_true rfl) ?_
  obtain ⟨q110, hq111, hd112⟩ := Option.bind_eq_some_iff.mp hd; clear hd; have hd := hd112; clear hd112
  refine ar_cv ok_Mo_short0 hk_Mo_untouch rfl rfl (As := []) (ad := 22) (rest := []) rfl rfl hM69.1 (Nat.le_of_ble_eq_true rfl) (k_Mo_untouch  q65 h68 hM69 q110 hq111) (Nat.le_of_ble_eq_true rfl) (Nat.le_of_ble_eq_true rfl) (Nat.le_of_ble_eq_true rfl) (Nat.le_of_ble_eq_true rfl) (pc' := 171) rfl (fun r113 h115 z114 => ?_)
  obtain ⟨rfl, hM116, g118⟩ := z114
  have f117 := mF.tr f70 g118
  show am_S _ _ _ _ _ _ _ (171, [some (.ref 22), some (.int q107), none, none, none], [], h115, 0, 0) _
  refine am_steps ok_Mo_short0 1 (x' := (172, [some (.ref 22), some (.int q107), none, none, none], [.int q107], h115, 0, 0)) rfl (Nat.le_of_ble_eq_true rfl) (Nat.le_of_ble_eq_true rfl) ?_
  cases hd; exact am_ret ok_Mo_short0 rfl (Nat.le_of_ble_eq_true rfl) (Nat.le_of_ble_eq_true rfl) ⟨rfl, hM116, f117⟩
def l_Mo_resolve_6 : Nat → Int32 → mS → Option (mS)
  | 0, _, _ => none
  | fu + 1, v1, s => if ((s.1 32) : Int32) ≤ v1 then (some s) else ((am_ix v1 250).bind fun j11 => ((am_ix (s.2.2.1 55 j11) 250).bind fun j14 => (l_Mo_resolve_6 fu (v1 + 1) (mA s 49 j14 (am_bn 3 1)))))
set_option maxHeartbeats 4000000 in
set_option maxRecDepth 100000 in
theorem L_Mo_resolve_6 {Q : Option Value → am_H → Prop} (h0 : am_H) : ∀ (fu : Nat) (v1 : Int32) (s : mS) (h : am_H), RM s h → mF h0 h → ∀ q : mS, l_Mo_resolve_6 fu v1 s = some q → (∀ h' : am_H, RM q h' → mF h0 h' → am_S am_Pr none 5 129 0 0 71 (32, [some (.ref 22), none, none, none, none], [], h', 0, 0) Q) → am_S am_Pr none 5 129 0 0 71 (6, [some (.ref 22), some (.int v1), none, none, none], [], h, 0, 0) Q := by
  intro fu
  induction fu with
  | zero => intro v1 s h hM f q hd; cases hd
  | succ fu ih =>
    intro v1 s h hM f q hd kk
    unfold l_Mo_resolve_6 at hd
    refine am_steps ok_Mo_resolve 2 (x' := (8, [some (.ref 22), some (.int v1), none, none, none], [.ref 22, .int v1], h, 0, 0)) rfl (Nat.le_of_ble_eq_true rfl) (Nat.le_of_ble_eq_true rfl) ?_
    refine mr_get ok_Mo_resolve rfl hM (v := .int (s.1 32)) rfl (pc' := 11) rfl (Nat.le_of_ble_eq_true rfl) (Nat.le_of_ble_eq_true rfl) ?_
    refine am_steps ok_Mo_resolve 1 (x' := (if ((s.1 32) : Int32) ≤ v1 then 32 else 14, [some (.ref 22), some (.int v1), none, none, none], [], h, 0, 0)) rfl (Nat.le_of_ble_eq_true rfl) (Nat.le_of_ble_eq_true rfl) ?_
    refine am_if (fun hc10 => ?_) (fun hc10 => ?_)
    · rw [if_pos hc10] at hd
      refine am_drop 1 ?_
      cases hd; exact kk h hM f
    · rw [if_neg hc10] at hd
      refine am_steps ok_Mo_resolve 1 (x' := (15, [some (.ref 22), some (.int v1), none, none, none], [.ref 22], h, 0, 0)) rfl (Nat.le_of_ble_eq_true rfl) (Nat.le_of_ble_eq_true rfl) ?_
      refine mr_get ok_Mo_resolve rfl hM (v := .ref 49) rfl (pc' := 18) rfl (Nat.le_of_ble_eq_true rfl) (Nat.le_of_ble_eq_true rfl) ?_
      refine am_steps ok_Mo_resolve 1 (x' := (19, [some (.ref 22), some (.int v1), none, none, none], [.ref 22, .ref 49], h, 0, 0)) rfl (Nat.le_of_ble_eq_true rfl) (Nat.le_of_ble_eq_true rfl) ?_
      refine mr_get ok_Mo_resolve rfl hM (v := .ref 55) rfl (pc' := 22) rfl (Nat.le_of_ble_eq_true rfl) (Nat.le_of_ble_eq_true rfl) ?_
      refine am_steps ok_Mo_resolve 1 (x' := (23, [some (.ref 22), some (.int v1), none, none, none], [.int v1, .ref 55, .ref 49], h, 0, 0)) rfl (Nat.le_of_ble_eq_true rfl) (Nat.le_of_ble_eq_true rfl) ?_
      obtain ⟨j11, hx12, hd13⟩ := Option.bind_eq_some_iff.mp hd; clear hd; have hd := hd13; clear hd13
      refine mr_iald ok_Mo_resolve rfl hM (N := 250) (by decide) hx12 (pc' := 24) rfl (Nat.le_of_ble_eq_true rfl) (Nat.le_of_ble_eq_true rfl) ?_
      refine am_steps ok_Mo_resolve 1 (x' := (25, [some (.ref 22), some (.int v1), none, none, none], [.int 1, .int (s.2.2.1 55 j11), .ref 49], h, 0, 0)) rfl (Nat.le_of_ble_eq_true rfl) (Nat.le_of_ble_eq_true rfl) ?_
      obtain ⟨j14, hx15, hd16⟩ := Option.bind_eq_some_iff.mp hd; clear hd; have hd := hd16; clear hd16
      refine mr_bast ok_Mo_resolve rfl hM (N := 250) (by decide) (Or.inr rfl) hx15 (pc' := 26) rfl (Nat.le_of_ble_eq_true rfl) (Nat.le_of_ble_eq_true rfl) (fun h17 hM18 g20 => ?_)
      have f19 := mF.tr f g20
      refine am_steps ok_Mo_resolve 2 (x' := (6, [some (.ref 22), some (.int (v1 + 1)), none, none, none], [], h17, 0, 0)) rfl (Nat.le_of_ble_eq_true rfl) (Nat.le_of_ble_eq_true rfl) ?_
      exact ih (v1 + 1) (mA s 49 j14 (am_bn 3 1)) h17 hM18 f19 q hd kk
def l_Mo_resolve_59 : Nat → Int32 → Int32 → Int32 → Int32 → mS → Option (Int32)
  | 0, _, _, _, _, _ => none
  | fu + 1, v1, v2, v3, v4, s => if ((s.1 32) : Int32) ≤ v4 then (some v3) else ((am_ix v4 250).bind fun j48 => ((am_ix (s.2.2.1 55 j48) 250).bind fun j51 => ((if ((s.2.2.1 49 j51) : Int32) = 0 then (some v3) else ((d_Mo_net (s.2.2.1 55 j48) v1 s).bind fun q59 => (if (0 : Int32) ≤ (lg_cmp q59 0) then (some v3) else (some (s.2.2.1 55 j48))))).bind fun (u54 : Int32) => (l_Mo_resolve_59 fu v1 v2 u54 (v4 + 1) s))))
set_option maxHeartbeats 4000000 in
set_option maxRecDepth 100000 in
theorem L_Mo_resolve_59 {Q : Option Value → am_H → Prop} (s : mS) (h : am_H) (hM : RM s h) : ∀ (fu : Nat) (v1 : Int32) (v2 : Int32) (v3 : Int32) (v4 : Int32) (q : Int32), l_Mo_resolve_59 fu v1 v2 v3 v4 s = some q → am_S am_Pr none 5 129 0 0 71 (114, [some (.ref 22), some (.int v1), some (.int v2), some (.int q), none], [], h, 0, 0) Q → am_S am_Pr none 5 129 0 0 71 (59, [some (.ref 22), some (.int v1), some (.int v2), some (.int v3), some (.int v4)], [], h, 0, 0) Q := by
  intro fu
  induction fu with
  | zero => intro v1 v2 v3 v4 q hd; cases hd
  | succ fu ih =>
    intro v1 v2 v3 v4 q hd kk
    unfold l_Mo_resolve_59 at hd
    refine am_steps ok_Mo_resolve 2 (x' := (62, [some (.ref 22), some (.int v1), some (.int v2), some (.int v3), some (.int v4)], [.ref 22, .int v4], h, 0, 0)) rfl (Nat.le_of_ble_eq_true rfl) (Nat.le_of_ble_eq_true rfl) ?_
    refine mr_get ok_Mo_resolve rfl hM (v := .int (s.1 32)) rfl (pc' := 65) rfl (Nat.le_of_ble_eq_true rfl) (Nat.le_of_ble_eq_true rfl) ?_
    refine am_steps ok_Mo_resolve 1 (x' := (if ((s.1 32) : Int32) ≤ v4 then 114 else 68, [some (.ref 22), some (.int v1), some (.int v2), some (.int v3), some (.int v4)], [], h, 0, 0)) rfl (Nat.le_of_ble_eq_true rfl) (Nat.le_of_ble_eq_true rfl) ?_
    refine am_if (fun hc47 => ?_) (fun hc47 => ?_)
    · rw [if_pos hc47] at hd
      refine am_drop 4 ?_
      cases hd; exact kk
    · rw [if_neg hc47] at hd
      refine am_steps ok_Mo_resolve 1 (x' := (69, [some (.ref 22), some (.int v1), some (.int v2), some (.int v3), some (.int v4)], [.ref 22], h, 0, 0)) rfl (Nat.le_of_ble_eq_true rfl) (Nat.le_of_ble_eq_true rfl) ?_
      refine mr_get ok_Mo_resolve rfl hM (v := .ref 49) rfl (pc' := 72) rfl (Nat.le_of_ble_eq_true rfl) (Nat.le_of_ble_eq_true rfl) ?_
      refine am_steps ok_Mo_resolve 1 (x' := (73, [some (.ref 22), some (.int v1), some (.int v2), some (.int v3), some (.int v4)], [.ref 22, .ref 49], h, 0, 0)) rfl (Nat.le_of_ble_eq_true rfl) (Nat.le_of_ble_eq_true rfl) ?_
      refine mr_get ok_Mo_resolve rfl hM (v := .ref 55) rfl (pc' := 76) rfl (Nat.le_of_ble_eq_true rfl) (Nat.le_of_ble_eq_true rfl) ?_
      refine am_steps ok_Mo_resolve 1 (x' := (78, [some (.ref 22), some (.int v1), some (.int v2), some (.int v3), some (.int v4)], [.int v4, .ref 55, .ref 49], h, 0, 0)) rfl (Nat.le_of_ble_eq_true rfl) (Nat.le_of_ble_eq_true rfl) ?_
      obtain ⟨j48, hx49, hd50⟩ := Option.bind_eq_some_iff.mp hd; clear hd; have hd := hd50; clear hd50
      refine mr_iald ok_Mo_resolve rfl hM (N := 250) (by decide) hx49 (pc' := 79) rfl (Nat.le_of_ble_eq_true rfl) (Nat.le_of_ble_eq_true rfl) ?_
      obtain ⟨j51, hx52, hd53⟩ := Option.bind_eq_some_iff.mp hd; clear hd; have hd := hd53; clear hd53
      refine mr_bald ok_Mo_resolve rfl hM (N := 250) (by decide) (Or.inr rfl) hx52 (pc' := 80) rfl (Nat.le_of_ble_eq_true rfl) (Nat.le_of_ble_eq_true rfl) ?_
      refine am_steps ok_Mo_resolve 1 (x' := (if ((s.2.2.1 49 j51) : Int32) = 0 then 108 else 83, [some (.ref 22), some (.int v1), some (.int v2), some (.int v3), some (.int v4)], [], h, 0, 0)) rfl (Nat.le_of_ble_eq_true rfl) (Nat.le_of_ble_eq_true rfl) ?_
      obtain ⟨u54, hA56, hB57⟩ := Option.bind_eq_some_iff.mp hd; clear hd
      have K55 : am_S am_Pr none 5 129 0 0 71 (108, [some (.ref 22), some (.int v1), some (.int v2), some (.int u54), some (.int v4)], [], h, 0, 0) Q := by
        have hd := hB57
        refine am_steps ok_Mo_resolve 2 (x' := (59, [some (.ref 22), some (.int v1), some (.int v2), some (.int u54), some (.int (v4 + 1))], [], h, 0, 0)) rfl (Nat.le_of_ble_eq_true rfl) (Nat.le_of_ble_eq_true rfl) ?_
        exact ih v1 v2 u54 (v4 + 1) q hd kk
      clear hB57; have hd := hA56; clear hA56
      refine am_if (fun hc58 => ?_) (fun hc58 => ?_)
      · rw [if_pos hc58] at hd
        cases hd; exact K55 
      · rw [if_neg hc58] at hd
        refine am_steps ok_Mo_resolve 2 (x' := (85, [some (.ref 22), some (.int v1), some (.int v2), some (.int v3), some (.int v4)], [.ref 22, .ref 22], h, 0, 0)) rfl (Nat.le_of_ble_eq_true rfl) (Nat.le_of_ble_eq_true rfl) ?_
        refine mr_get ok_Mo_resolve rfl hM (v := .ref 55) rfl (pc' := 88) rfl (Nat.le_of_ble_eq_true rfl) (Nat.le_of_ble_eq_true rfl) ?_
        refine am_steps ok_Mo_resolve 1 (x' := (90, [some (.ref 22), some (.int v1), some (.int v2), some (.int v3), some (.int v4)], [.int v4, .ref 55, .ref 22], h, 0, 0)) rfl (Nat.le_of_ble_eq_true rfl) (Nat.le_of_ble_eq_true rfl) ?_
        refine mr_iald ok_Mo_resolve rfl hM (N := 250) (by decide) hx49 (pc' := 91) rfl (Nat.le_of_ble_eq_true rfl) (Nat.le_of_ble_eq_true rfl) ?_
        refine am_steps ok_Mo_resolve 1 (x' := (92, [some (.ref 22), some (.int v1), some (.int v2), some (.int v3), some (.int v4)], [.int v1, .int (s.2.2.1 55 j48), .ref 22], h, 0, 0)) rfl (Nat.le_of_ble_eq_true rfl) (Nat.le_of_ble_eq_true rfl) ?_
        obtain ⟨q59, hq60, hd61⟩ := Option.bind_eq_some_iff.mp hd; clear hd; have hd := hd61; clear hd61
        refine ar_cv ok_Mo_resolve hk_Mo_net rfl rfl (As := [.int (s.2.2.1 55 j48), .int v1]) (ad := 22) (rest := []) rfl rfl hM.1 (Nat.le_of_ble_eq_true rfl) (k_Mo_net (s.2.2.1 55 j48) v1 s h hM q59 hq60) (Nat.le_of_ble_eq_true rfl) (Nat.le_of_ble_eq_true rfl) (Nat.le_of_ble_eq_true rfl) (Nat.le_of_ble_eq_true rfl) (pc' := 95) rfl (fun r62 h64 z63 => ?_)
        obtain ⟨z68, z69⟩ := z63; subst z68; rw [z69]
        show am_S _ _ _ _ _ _ _ (95, [some (.ref 22), some (.int v1), some (.int v2), some (.int v3), some (.int v4)], [.long q59], h, 0, 0) _
        refine am_steps ok_Mo_resolve 3 (x' := (if (0 : Int32) ≤ (lg_cmp q59 0) then 108 else 100, [some (.ref 22), some (.int v1), some (.int v2), some (.int v3), some (.int v4)], [], h, 0, 0)) rfl (Nat.le_of_ble_eq_true rfl) (Nat.le_of_ble_eq_true rfl) ?_
        refine am_if (fun hc70 => ?_) (fun hc70 => ?_)
        · rw [if_pos hc70] at hd
          cases hd; exact K55 
        · rw [if_neg hc70] at hd
          refine am_steps ok_Mo_resolve 1 (x' := (101, [some (.ref 22), some (.int v1), some (.int v2), some (.int v3), some (.int v4)], [.ref 22], h, 0, 0)) rfl (Nat.le_of_ble_eq_true rfl) (Nat.le_of_ble_eq_true rfl) ?_
          refine mr_get ok_Mo_resolve rfl hM (v := .ref 55) rfl (pc' := 104) rfl (Nat.le_of_ble_eq_true rfl) (Nat.le_of_ble_eq_true rfl) ?_
          refine am_steps ok_Mo_resolve 1 (x' := (106, [some (.ref 22), some (.int v1), some (.int v2), some (.int v3), some (.int v4)], [.int v4, .ref 55], h, 0, 0)) rfl (Nat.le_of_ble_eq_true rfl) (Nat.le_of_ble_eq_true rfl) ?_
          refine mr_iald ok_Mo_resolve rfl hM (N := 250) (by decide) hx49 (pc' := 107) rfl (Nat.le_of_ble_eq_true rfl) (Nat.le_of_ble_eq_true rfl) ?_
          refine am_steps ok_Mo_resolve 1 (x' := (108, [some (.ref 22), some (.int v1), some (.int v2), some (.int (s.2.2.1 55 j48)), some (.int v4)], [], h, 0, 0)) rfl (Nat.le_of_ble_eq_true rfl) (Nat.le_of_ble_eq_true rfl) ?_
          cases hd; exact K55 
def l_Mo_resolve_43 : Nat → Int32 → Int32 → mS → Option (mS)
  | 0, _, _, _ => none
  | fu + 1, v1, v2, s => if (250 : Int32) ≤ v2 then (some s) else (if (v1 : Int32) < 0 then (some s) else ((l_Mo_resolve_59 100000 v1 v2 (-1) 0 s).bind fun q71 => ((if (q71 : Int32) < 0 then (some s) else ((am_ix q71 250).bind fun j100 => (some (mA s 49 j100 (am_bn 3 0))))).bind fun (u74 : mS) => ((d_Mo_close  u74).bind fun q81 => ((d_Mo_short0  q81).bind fun q90 => (l_Mo_resolve_43 fu q90.1 (v2 + 1) q90.2))))))
set_option maxHeartbeats 4000000 in
set_option maxRecDepth 100000 in
theorem L_Mo_resolve_43 {Q : Option Value → am_H → Prop} (h0 : am_H) : ∀ (fu : Nat) (v1 : Int32) (v2 : Int32) (s : mS) (h : am_H), RM s h → mF h0 h → ∀ q : mS, l_Mo_resolve_43 fu v1 v2 s = some q → (∀ h' : am_H, RM q h' → mF h0 h' → am_S am_Pr none 5 129 0 0 71 (140, [some (.ref 22), none, none, none, none], [], h', 0, 0) Q) → am_S am_Pr none 5 129 0 0 71 (43, [some (.ref 22), some (.int v1), some (.int v2), none, none], [], h, 0, 0) Q := by
  intro fu
  induction fu with
  | zero => intro v1 v2 s h hM f q hd; cases hd
  | succ fu ih =>
    intro v1 v2 s h hM f q hd kk
    unfold l_Mo_resolve_43 at hd
    refine am_steps ok_Mo_resolve 3 (x' := (if (250 : Int32) ≤ v2 then 140 else 50, [some (.ref 22), some (.int v1), some (.int v2), none, none], [], h, 0, 0)) rfl (Nat.le_of_ble_eq_true rfl) (Nat.le_of_ble_eq_true rfl) ?_
    refine am_if (fun hc45 => ?_) (fun hc45 => ?_)
    · rw [if_pos hc45] at hd
      refine am_drop 1 ?_
      refine am_drop 2 ?_
      cases hd; exact kk h hM f
    · rw [if_neg hc45] at hd
      refine am_steps ok_Mo_resolve 2 (x' := (if (v1 : Int32) < 0 then 140 else 54, [some (.ref 22), some (.int v1), some (.int v2), none, none], [], h, 0, 0)) rfl (Nat.le_of_ble_eq_true rfl) (Nat.le_of_ble_eq_true rfl) ?_
      refine am_if (fun hc46 => ?_) (fun hc46 => ?_)
      · rw [if_pos hc46] at hd
        refine am_drop 1 ?_
        refine am_drop 2 ?_
        cases hd; exact kk h hM f
      · rw [if_neg hc46] at hd
        refine am_steps ok_Mo_resolve 4 (x' := (59, [some (.ref 22), some (.int v1), some (.int v2), some (.int (-1)), some (.int 0)], [], h, 0, 0)) rfl (Nat.le_of_ble_eq_true rfl) (Nat.le_of_ble_eq_true rfl) ?_
        obtain ⟨q71, hq72, hd73⟩ := Option.bind_eq_some_iff.mp hd; clear hd; have hd := hd73; clear hd73
        refine L_Mo_resolve_59 s h hM 100000 v1 v2 (-1) 0 q71 hq72 ?_
        show am_S _ _ _ _ _ _ _ (114, [some (.ref 22), some (.int v1), some (.int v2), some (.int q71), none], [], h, 0, 0) _
        refine am_steps ok_Mo_resolve 2 (x' := (if (q71 : Int32) < 0 then 125 else 118, [some (.ref 22), some (.int v1), some (.int v2), some (.int q71), none], [], h, 0, 0)) rfl (Nat.le_of_ble_eq_true rfl) (Nat.le_of_ble_eq_true rfl) ?_
        obtain ⟨u74, hA76, hB77⟩ := Option.bind_eq_some_iff.mp hd; clear hd
        have K75 : ∀ h' : am_H, RM u74 h' → mF h0 h' → am_S am_Pr none 5 129 0 0 71 (125, [some (.ref 22), none, some (.int v2), none, none], [], h', 0, 0) Q := by
          have hd := hB77
          intro h78 hM79 f80
          refine am_steps ok_Mo_resolve 1 (x' := (126, [some (.ref 22), none, some (.int v2), none, none], [.ref 22], h78, 0, 0)) rfl (Nat.le_of_ble_eq_true rfl) (Nat.le_of_ble_eq_true rfl) ?_
          obtain ⟨q81, hq82, hd83⟩ := Option.bind_eq_some_iff.mp hd; clear hd; have hd := hd83; clear hd83
          refine ar_cv ok_Mo_resolve hk_Mo_close rfl rfl (As := []) (ad := 22) (rest := []) rfl rfl hM79.1 (Nat.le_of_ble_eq_true rfl) (k_Mo_close  u74 h78 hM79 q81 hq82) (Nat.le_of_ble_eq_true rfl) (Nat.le_of_ble_eq_true rfl) (Nat.le_of_ble_eq_true rfl) (Nat.le_of_ble_eq_true rfl) (pc' := 129) rfl (fun r84 h86 z85 => ?_)
          obtain ⟨rfl, hM87, g89⟩ := z85
          have f88 := mF.tr f80 g89
          show am_S _ _ _ _ _ _ _ (129, [some (.ref 22), none, some (.int v2), none, none], [], h86, 0, 0) _
          refine am_steps ok_Mo_resolve 1 (x' := (130, [some (.ref 22), none, some (.int v2), none, none], [.ref 22], h86, 0, 0)) rfl (Nat.le_of_ble_eq_true rfl) (Nat.le_of_ble_eq_true rfl) ?_
          obtain ⟨q90, hq91, hd92⟩ := Option.bind_eq_some_iff.mp hd; clear hd; have hd := hd92; clear hd92
          refine ar_cv ok_Mo_resolve hk_Mo_short0 rfl rfl (As := []) (ad := 22) (rest := []) rfl rfl hM87.1 (Nat.le_of_ble_eq_true rfl) (k_Mo_short0  q81 h86 hM87 q90 hq91) (Nat.le_of_ble_eq_true rfl) (Nat.le_of_ble_eq_true rfl) (Nat.le_of_ble_eq_true rfl) (Nat.le_of_ble_eq_true rfl) (pc' := 133) rfl (fun r93 h95 z94 => ?_)
          obtain ⟨rfl, hM96, g98⟩ := z94
          have f97 := mF.tr f88 g98
          show am_S _ _ _ _ _ _ _ (133, [some (.ref 22), none, some (.int v2), none, none], [.int q90.1], h95, 0, 0) _
          refine am_steps ok_Mo_resolve 3 (x' := (43, [some (.ref 22), some (.int q90.1), some (.int (v2 + 1)), none, none], [], h95, 0, 0)) rfl (Nat.le_of_ble_eq_true rfl) (Nat.le_of_ble_eq_true rfl) ?_
          exact ih q90.1 (v2 + 1) q90.2 h95 hM96 f97 q hd kk
        clear hB77; have hd := hA76; clear hA76
        refine am_if (fun hc99 => ?_) (fun hc99 => ?_)
        · rw [if_pos hc99] at hd
          refine am_drop 1 ?_
          refine am_drop 3 ?_
          cases hd; exact K75 h hM f
        · rw [if_neg hc99] at hd
          refine am_steps ok_Mo_resolve 1 (x' := (119, [some (.ref 22), some (.int v1), some (.int v2), some (.int q71), none], [.ref 22], h, 0, 0)) rfl (Nat.le_of_ble_eq_true rfl) (Nat.le_of_ble_eq_true rfl) ?_
          refine mr_get ok_Mo_resolve rfl hM (v := .ref 49) rfl (pc' := 122) rfl (Nat.le_of_ble_eq_true rfl) (Nat.le_of_ble_eq_true rfl) ?_
          refine am_steps ok_Mo_resolve 2 (x' := (124, [some (.ref 22), some (.int v1), some (.int v2), some (.int q71), none], [.int 0, .int q71, .ref 49], h, 0, 0)) rfl (Nat.le_of_ble_eq_true rfl) (Nat.le_of_ble_eq_true rfl) ?_
          obtain ⟨j100, hx101, hd102⟩ := Option.bind_eq_some_iff.mp hd; clear hd; have hd := hd102; clear hd102
          refine mr_bast ok_Mo_resolve rfl hM (N := 250) (by decide) (Or.inr rfl) hx101 (pc' := 125) rfl (Nat.le_of_ble_eq_true rfl) (Nat.le_of_ble_eq_true rfl) (fun h103 hM104 g106 => ?_)
          have f105 := mF.tr f g106
          refine am_drop 1 ?_
          refine am_drop 3 ?_
          cases hd; exact K75 h103 hM104 f105
def l_Mo_resolve_144 : Nat → Int32 → Int32 → mS → Option (Int32 × mS)
  | 0, _, _, _ => none
  | fu + 1, v2, v3, s => if ((s.1 32) : Int32) ≤ v3 then (some (v2, s)) else ((am_ix v3 250).bind fun j114 => ((am_ix (s.2.2.1 55 j114) 250).bind fun j117 => ((if ¬ ((s.2.2.1 49 j117) : Int32) = 0 then ((d_Mo_done (s.2.2.1 55 j114) s).bind fun q128 => (some ((v2 + 1), q128))) else (some (v2, s))).bind fun (u120 : Int32 × mS) => (l_Mo_resolve_144 fu u120.1 (v3 + 1) u120.2))))
set_option maxHeartbeats 4000000 in
set_option maxRecDepth 100000 in
theorem L_Mo_resolve_144 {Q : Option Value → am_H → Prop} (h0 : am_H) : ∀ (fu : Nat) (v2 : Int32) (v3 : Int32) (s : mS) (h : am_H), RM s h → mF h0 h → ∀ q : Int32 × mS, l_Mo_resolve_144 fu v2 v3 s = some q → (∀ h' : am_H, RM q.2 h' → mF h0 h' → am_S am_Pr none 5 129 0 0 71 (188, [some (.ref 22), none, some (.int q.1), none, none], [], h', 0, 0) Q) → am_S am_Pr none 5 129 0 0 71 (144, [some (.ref 22), none, some (.int v2), some (.int v3), none], [], h, 0, 0) Q := by
  intro fu
  induction fu with
  | zero => intro v2 v3 s h hM f q hd; cases hd
  | succ fu ih =>
    intro v2 v3 s h hM f q hd kk
    unfold l_Mo_resolve_144 at hd
    refine am_steps ok_Mo_resolve 2 (x' := (146, [some (.ref 22), none, some (.int v2), some (.int v3), none], [.ref 22, .int v3], h, 0, 0)) rfl (Nat.le_of_ble_eq_true rfl) (Nat.le_of_ble_eq_true rfl) ?_
    refine mr_get ok_Mo_resolve rfl hM (v := .int (s.1 32)) rfl (pc' := 149) rfl (Nat.le_of_ble_eq_true rfl) (Nat.le_of_ble_eq_true rfl) ?_
    refine am_steps ok_Mo_resolve 1 (x' := (if ((s.1 32) : Int32) ≤ v3 then 188 else 152, [some (.ref 22), none, some (.int v2), some (.int v3), none], [], h, 0, 0)) rfl (Nat.le_of_ble_eq_true rfl) (Nat.le_of_ble_eq_true rfl) ?_
    refine am_if (fun hc113 => ?_) (fun hc113 => ?_)
    · rw [if_pos hc113] at hd
      refine am_drop 3 ?_
      cases hd; exact kk h hM f
    · rw [if_neg hc113] at hd
      refine am_steps ok_Mo_resolve 1 (x' := (153, [some (.ref 22), none, some (.int v2), some (.int v3), none], [.ref 22], h, 0, 0)) rfl (Nat.le_of_ble_eq_true rfl) (Nat.le_of_ble_eq_true rfl) ?_
      refine mr_get ok_Mo_resolve rfl hM (v := .ref 49) rfl (pc' := 156) rfl (Nat.le_of_ble_eq_true rfl) (Nat.le_of_ble_eq_true rfl) ?_
      refine am_steps ok_Mo_resolve 1 (x' := (157, [some (.ref 22), none, some (.int v2), some (.int v3), none], [.ref 22, .ref 49], h, 0, 0)) rfl (Nat.le_of_ble_eq_true rfl) (Nat.le_of_ble_eq_true rfl) ?_
      refine mr_get ok_Mo_resolve rfl hM (v := .ref 55) rfl (pc' := 160) rfl (Nat.le_of_ble_eq_true rfl) (Nat.le_of_ble_eq_true rfl) ?_
      refine am_steps ok_Mo_resolve 1 (x' := (161, [some (.ref 22), none, some (.int v2), some (.int v3), none], [.int v3, .ref 55, .ref 49], h, 0, 0)) rfl (Nat.le_of_ble_eq_true rfl) (Nat.le_of_ble_eq_true rfl) ?_
      obtain ⟨j114, hx115, hd116⟩ := Option.bind_eq_some_iff.mp hd; clear hd; have hd := hd116; clear hd116
      refine mr_iald ok_Mo_resolve rfl hM (N := 250) (by decide) hx115 (pc' := 162) rfl (Nat.le_of_ble_eq_true rfl) (Nat.le_of_ble_eq_true rfl) ?_
      obtain ⟨j117, hx118, hd119⟩ := Option.bind_eq_some_iff.mp hd; clear hd; have hd := hd119; clear hd119
      refine mr_bald ok_Mo_resolve rfl hM (N := 250) (by decide) (Or.inr rfl) hx118 (pc' := 163) rfl (Nat.le_of_ble_eq_true rfl) (Nat.le_of_ble_eq_true rfl) ?_
      refine am_steps ok_Mo_resolve 1 (x' := (if ¬ ((s.2.2.1 49 j117) : Int32) = 0 then 169 else 166, [some (.ref 22), none, some (.int v2), some (.int v3), none], [], h, 0, 0)) rfl (Nat.le_of_ble_eq_true rfl) (Nat.le_of_ble_eq_true rfl) ?_
      obtain ⟨u120, hA122, hB123⟩ := Option.bind_eq_some_iff.mp hd; clear hd
      have K121 : ∀ h' : am_H, RM u120.2 h' → mF h0 h' → am_S am_Pr none 5 129 0 0 71 (182, [some (.ref 22), none, some (.int u120.1), some (.int v3), none], [], h', 0, 0) Q := by
        have hd := hB123
        intro h124 hM125 f126
        refine am_steps ok_Mo_resolve 2 (x' := (144, [some (.ref 22), none, some (.int u120.1), some (.int (v3 + 1)), none], [], h124, 0, 0)) rfl (Nat.le_of_ble_eq_true rfl) (Nat.le_of_ble_eq_true rfl) ?_
        exact ih u120.1 (v3 + 1) u120.2 h124 hM125 f126 q hd kk
      clear hB123; have hd := hA122; clear hA122
      refine am_if (fun hc127 => ?_) (fun hc127 => ?_)
      · rw [if_pos hc127] at hd
        refine am_steps ok_Mo_resolve 2 (x' := (171, [some (.ref 22), none, some (.int v2), some (.int v3), none], [.ref 22, .ref 22], h, 0, 0)) rfl (Nat.le_of_ble_eq_true rfl) (Nat.le_of_ble_eq_true rfl) ?_
        refine mr_get ok_Mo_resolve rfl hM (v := .ref 55) rfl (pc' := 174) rfl (Nat.le_of_ble_eq_true rfl) (Nat.le_of_ble_eq_true rfl) ?_
        refine am_steps ok_Mo_resolve 1 (x' := (175, [some (.ref 22), none, some (.int v2), some (.int v3), none], [.int v3, .ref 55, .ref 22], h, 0, 0)) rfl (Nat.le_of_ble_eq_true rfl) (Nat.le_of_ble_eq_true rfl) ?_
        refine mr_iald ok_Mo_resolve rfl hM (N := 250) (by decide) hx115 (pc' := 176) rfl (Nat.le_of_ble_eq_true rfl) (Nat.le_of_ble_eq_true rfl) ?_
        obtain ⟨q128, hq129, hd130⟩ := Option.bind_eq_some_iff.mp hd; clear hd; have hd := hd130; clear hd130
        refine ar_cv ok_Mo_resolve hk_Mo_done rfl rfl (As := [.int (s.2.2.1 55 j114)]) (ad := 22) (rest := []) rfl rfl hM.1 (Nat.le_of_ble_eq_true rfl) (k_Mo_done (s.2.2.1 55 j114) s h hM q128 hq129) (Nat.le_of_ble_eq_true rfl) (Nat.le_of_ble_eq_true rfl) (Nat.le_of_ble_eq_true rfl) (Nat.le_of_ble_eq_true rfl) (pc' := 179) rfl (fun r131 h133 z132 => ?_)
        obtain ⟨rfl, hM134, g136⟩ := z132
        have f135 := mF.tr f g136
        show am_S _ _ _ _ _ _ _ (179, [some (.ref 22), none, some (.int v2), some (.int v3), none], [], h133, 0, 0) _
        refine am_steps ok_Mo_resolve 1 (x' := (182, [some (.ref 22), none, some (.int (v2 + 1)), some (.int v3), none], [], h133, 0, 0)) rfl (Nat.le_of_ble_eq_true rfl) (Nat.le_of_ble_eq_true rfl) ?_
        cases hd; exact K121 h133 hM134 f135
      · rw [if_neg hc127] at hd
        refine am_steps ok_Mo_resolve 1 (x' := (182, [some (.ref 22), none, some (.int v2), some (.int v3), none], [], h, 0, 0)) rfl (Nat.le_of_ble_eq_true rfl) (Nat.le_of_ble_eq_true rfl) ?_
        cases hd; exact K121 h hM f
def l_Mo_resolve_195 : Nat → Int32 → Int32 → mS → Option (mS)
  | 0, _, _, _ => none
  | fu + 1, v2, v3, s => if (v3 : Int32) < 0 then (some s) else ((am_ix v3 250).bind fun j144 => ((if ((s.2.2.1 48 j144) : Int32) = 0 then (some s) else (if ((s.2.2.1 49 j144) : Int32) = 0 then (some s) else ((d_Mo_drop v3 s).bind fun q156 => (some q156)))).bind fun (u147 : mS) => (l_Mo_resolve_195 fu v2 (v3 + (-1)) u147)))
set_option maxHeartbeats 4000000 in
set_option maxRecDepth 100000 in
theorem L_Mo_resolve_195 {Q : Option Value → am_H → Prop} (h0 : am_H) : ∀ (fu : Nat) (v2 : Int32) (v3 : Int32) (s : mS) (h : am_H), RM s h → mF h0 h → ∀ q : mS, l_Mo_resolve_195 fu v2 v3 s = some q → (∀ h' : am_H, RM q h' → mF h0 h' → am_S am_Pr none 5 129 0 0 71 (228, [some (.ref 22), none, some (.int v2), none, none], [], h', 0, 0) Q) → am_S am_Pr none 5 129 0 0 71 (195, [some (.ref 22), none, some (.int v2), some (.int v3), none], [], h, 0, 0) Q := by
  intro fu
  induction fu with
  | zero => intro v2 v3 s h hM f q hd; cases hd
  | succ fu ih =>
    intro v2 v3 s h hM f q hd kk
    unfold l_Mo_resolve_195 at hd
    refine am_steps ok_Mo_resolve 2 (x' := (if (v3 : Int32) < 0 then 228 else 199, [some (.ref 22), none, some (.int v2), some (.int v3), none], [], h, 0, 0)) rfl (Nat.le_of_ble_eq_true rfl) (Nat.le_of_ble_eq_true rfl) ?_
    refine am_if (fun hc143 => ?_) (fun hc143 => ?_)
    · rw [if_pos hc143] at hd
      refine am_drop 3 ?_
      cases hd; exact kk h hM f
    · rw [if_neg hc143] at hd
      refine am_steps ok_Mo_resolve 1 (x' := (200, [some (.ref 22), none, some (.int v2), some (.int v3), none], [.ref 22], h, 0, 0)) rfl (Nat.le_of_ble_eq_true rfl) (Nat.le_of_ble_eq_true rfl) ?_
      refine mr_get ok_Mo_resolve rfl hM (v := .ref 48) rfl (pc' := 203) rfl (Nat.le_of_ble_eq_true rfl) (Nat.le_of_ble_eq_true rfl) ?_
      refine am_steps ok_Mo_resolve 1 (x' := (204, [some (.ref 22), none, some (.int v2), some (.int v3), none], [.int v3, .ref 48], h, 0, 0)) rfl (Nat.le_of_ble_eq_true rfl) (Nat.le_of_ble_eq_true rfl) ?_
      obtain ⟨j144, hx145, hd146⟩ := Option.bind_eq_some_iff.mp hd; clear hd; have hd := hd146; clear hd146
      refine mr_bald ok_Mo_resolve rfl hM (N := 250) (by decide) (Or.inr rfl) hx145 (pc' := 205) rfl (Nat.le_of_ble_eq_true rfl) (Nat.le_of_ble_eq_true rfl) ?_
      refine am_steps ok_Mo_resolve 1 (x' := (if ((s.2.2.1 48 j144) : Int32) = 0 then 222 else 208, [some (.ref 22), none, some (.int v2), some (.int v3), none], [], h, 0, 0)) rfl (Nat.le_of_ble_eq_true rfl) (Nat.le_of_ble_eq_true rfl) ?_
      obtain ⟨u147, hA149, hB150⟩ := Option.bind_eq_some_iff.mp hd; clear hd
      have K148 : ∀ h' : am_H, RM u147 h' → mF h0 h' → am_S am_Pr none 5 129 0 0 71 (222, [some (.ref 22), none, some (.int v2), some (.int v3), none], [], h', 0, 0) Q := by
        have hd := hB150
        intro h151 hM152 f153
        refine am_steps ok_Mo_resolve 2 (x' := (195, [some (.ref 22), none, some (.int v2), some (.int (v3 + (-1))), none], [], h151, 0, 0)) rfl (Nat.le_of_ble_eq_true rfl) (Nat.le_of_ble_eq_true rfl) ?_
        exact ih v2 (v3 + (-1)) u147 h151 hM152 f153 q hd kk
      clear hB150; have hd := hA149; clear hA149
      refine am_if (fun hc154 => ?_) (fun hc154 => ?_)
      · rw [if_pos hc154] at hd
        cases hd; exact K148 h hM f
      · rw [if_neg hc154] at hd
        refine am_steps ok_Mo_resolve 1 (x' := (209, [some (.ref 22), none, some (.int v2), some (.int v3), none], [.ref 22], h, 0, 0)) rfl (Nat.le_of_ble_eq_true rfl) (Nat.le_of_ble_eq_true rfl) ?_
        refine mr_get ok_Mo_resolve rfl hM (v := .ref 49) rfl (pc' := 212) rfl (Nat.le_of_ble_eq_true rfl) (Nat.le_of_ble_eq_true rfl) ?_
        refine am_steps ok_Mo_resolve 1 (x' := (213, [some (.ref 22), none, some (.int v2), some (.int v3), none], [.int v3, .ref 49], h, 0, 0)) rfl (Nat.le_of_ble_eq_true rfl) (Nat.le_of_ble_eq_true rfl) ?_
        refine mr_bald ok_Mo_resolve rfl hM (N := 250) (by decide) (Or.inr rfl) hx145 (pc' := 214) rfl (Nat.le_of_ble_eq_true rfl) (Nat.le_of_ble_eq_true rfl) ?_
        refine am_steps ok_Mo_resolve 1 (x' := (if ((s.2.2.1 49 j144) : Int32) = 0 then 222 else 217, [some (.ref 22), none, some (.int v2), some (.int v3), none], [], h, 0, 0)) rfl (Nat.le_of_ble_eq_true rfl) (Nat.le_of_ble_eq_true rfl) ?_
        refine am_if (fun hc155 => ?_) (fun hc155 => ?_)
        · rw [if_pos hc155] at hd
          cases hd; exact K148 h hM f
        · rw [if_neg hc155] at hd
          refine am_steps ok_Mo_resolve 2 (x' := (219, [some (.ref 22), none, some (.int v2), some (.int v3), none], [.int v3, .ref 22], h, 0, 0)) rfl (Nat.le_of_ble_eq_true rfl) (Nat.le_of_ble_eq_true rfl) ?_
          obtain ⟨q156, hq157, hd158⟩ := Option.bind_eq_some_iff.mp hd; clear hd; have hd := hd158; clear hd158
          refine ar_cv ok_Mo_resolve hk_Mo_drop rfl rfl (As := [.int v3]) (ad := 22) (rest := []) rfl rfl hM.1 (Nat.le_of_ble_eq_true rfl) (k_Mo_drop v3 s h hM q156 hq157) (Nat.le_of_ble_eq_true rfl) (Nat.le_of_ble_eq_true rfl) (Nat.le_of_ble_eq_true rfl) (Nat.le_of_ble_eq_true rfl) (pc' := 222) rfl (fun r159 h161 z160 => ?_)
          obtain ⟨rfl, hM162, g164⟩ := z160
          have f163 := mF.tr f g164
          show am_S _ _ _ _ _ _ _ (222, [some (.ref 22), none, some (.int v2), some (.int v3), none], [], h161, 0, 0) _
          cases hd; exact K148 h161 hM162 f163
def d_Mo_resolve  (s : mS) : Option (mS) := (d_Mo_sort  s).bind fun q1 => ((l_Mo_resolve_6 100000 0 q1).bind fun q21 => ((d_Mo_close  q21).bind fun q27 => ((d_Mo_short0  q27).bind fun q36 => ((l_Mo_resolve_43 100000 q36.1 0 q36.2).bind fun q107 => ((l_Mo_resolve_144 100000 0 0 q107).bind fun q137 => ((l_Mo_resolve_195 100000 q137.1 ((q137.2.1 31) - 1) q137.2).bind fun q165 => ((if (q137.1 : Int32) ≤ 0 then (some q165) else ((d_Mo_check  q165).bind fun q188 => (some q188))).bind fun (u171 : mS) => ((d_Mo_settle  u171).bind fun q178 => (some q178)))))))))
set_option maxHeartbeats 4000000 in
set_option maxRecDepth 100000 in
theorem k_Mo_resolve  (s : mS) (h0 : am_H) (hM : RM s h0) (q : mS) (hd : d_Mo_resolve  s = some q) : am_Me am_Pr none 5 129 0 0 71 [.ref 22] h0 (mQv q h0) := by
  refine am_enter (d := hd_Mo_resolve) rfl (by decide +kernel) (Nat.le_of_ble_eq_true rfl) ?_
  show am_S _ _ _ _ _ _ _ (0, [some (.ref 22), none, none, none, none], [], h0, 0, 0) _
  unfold d_Mo_resolve at hd
  refine am_steps ok_Mo_resolve 1 (x' := (1, [some (.ref 22), none, none, none, none], [.ref 22], h0, 0, 0)) rfl (Nat.le_of_ble_eq_true rfl) (Nat.le_of_ble_eq_true rfl) ?_
  obtain ⟨q1, hq2, hd3⟩ := Option.bind_eq_some_iff.mp hd; clear hd; have hd := hd3; clear hd3
  refine ar_cv ok_Mo_resolve hk_Mo_sort rfl rfl (As := []) (ad := 22) (rest := []) rfl rfl hM.1 (Nat.le_of_ble_eq_true rfl) (k_Mo_sort  s h0 hM q1 hq2) (Nat.le_of_ble_eq_true rfl) (Nat.le_of_ble_eq_true rfl) (Nat.le_of_ble_eq_true rfl) (Nat.le_of_ble_eq_true rfl) (pc' := 4) rfl (fun r4 h6 z5 => ?_)
  obtain ⟨rfl, hM7, g9⟩ := z5
  have f8 := mF.tr (mF.rf) g9
  show am_S _ _ _ _ _ _ _ (4, [some (.ref 22), none, none, none, none], [], h6, 0, 0) _
  refine am_steps ok_Mo_resolve 2 (x' := (6, [some (.ref 22), some (.int 0), none, none, none], [], h6, 0, 0)) rfl (Nat.le_of_ble_eq_true rfl) (Nat.le_of_ble_eq_true rfl) ?_
  obtain ⟨q21, hq22, hd23⟩ := Option.bind_eq_some_iff.mp hd; clear hd; have hd := hd23; clear hd23
  refine L_Mo_resolve_6 h0 100000 0 q1 h6 hM7 f8 q21 hq22 (fun h24 hM25 f26 => ?_)
  show am_S _ _ _ _ _ _ _ (32, [some (.ref 22), none, none, none, none], [], h24, 0, 0) _
  refine am_steps ok_Mo_resolve 1 (x' := (33, [some (.ref 22), none, none, none, none], [.ref 22], h24, 0, 0)) rfl (Nat.le_of_ble_eq_true rfl) (Nat.le_of_ble_eq_true rfl) ?_
  obtain ⟨q27, hq28, hd29⟩ := Option.bind_eq_some_iff.mp hd; clear hd; have hd := hd29; clear hd29
  refine ar_cv ok_Mo_resolve hk_Mo_close rfl rfl (As := []) (ad := 22) (rest := []) rfl rfl hM25.1 (Nat.le_of_ble_eq_true rfl) (k_Mo_close  q21 h24 hM25 q27 hq28) (Nat.le_of_ble_eq_true rfl) (Nat.le_of_ble_eq_true rfl) (Nat.le_of_ble_eq_true rfl) (Nat.le_of_ble_eq_true rfl) (pc' := 36) rfl (fun r30 h32 z31 => ?_)
  obtain ⟨rfl, hM33, g35⟩ := z31
  have f34 := mF.tr f26 g35
  show am_S _ _ _ _ _ _ _ (36, [some (.ref 22), none, none, none, none], [], h32, 0, 0) _
  refine am_steps ok_Mo_resolve 1 (x' := (37, [some (.ref 22), none, none, none, none], [.ref 22], h32, 0, 0)) rfl (Nat.le_of_ble_eq_true rfl) (Nat.le_of_ble_eq_true rfl) ?_
  obtain ⟨q36, hq37, hd38⟩ := Option.bind_eq_some_iff.mp hd; clear hd; have hd := hd38; clear hd38
  refine ar_cv ok_Mo_resolve hk_Mo_short0 rfl rfl (As := []) (ad := 22) (rest := []) rfl rfl hM33.1 (Nat.le_of_ble_eq_true rfl) (k_Mo_short0  q27 h32 hM33 q36 hq37) (Nat.le_of_ble_eq_true rfl) (Nat.le_of_ble_eq_true rfl) (Nat.le_of_ble_eq_true rfl) (Nat.le_of_ble_eq_true rfl) (pc' := 40) rfl (fun r39 h41 z40 => ?_)
  obtain ⟨rfl, hM42, g44⟩ := z40
  have f43 := mF.tr f34 g44
  show am_S _ _ _ _ _ _ _ (40, [some (.ref 22), none, none, none, none], [.int q36.1], h41, 0, 0) _
  refine am_steps ok_Mo_resolve 3 (x' := (43, [some (.ref 22), some (.int q36.1), some (.int 0), none, none], [], h41, 0, 0)) rfl (Nat.le_of_ble_eq_true rfl) (Nat.le_of_ble_eq_true rfl) ?_
  obtain ⟨q107, hq108, hd109⟩ := Option.bind_eq_some_iff.mp hd; clear hd; have hd := hd109; clear hd109
  refine L_Mo_resolve_43 h0 100000 q36.1 0 q36.2 h41 hM42 f43 q107 hq108 (fun h110 hM111 f112 => ?_)
  show am_S _ _ _ _ _ _ _ (140, [some (.ref 22), none, none, none, none], [], h110, 0, 0) _
  refine am_steps ok_Mo_resolve 4 (x' := (144, [some (.ref 22), none, some (.int 0), some (.int 0), none], [], h110, 0, 0)) rfl (Nat.le_of_ble_eq_true rfl) (Nat.le_of_ble_eq_true rfl) ?_
  obtain ⟨q137, hq138, hd139⟩ := Option.bind_eq_some_iff.mp hd; clear hd; have hd := hd139; clear hd139
  refine L_Mo_resolve_144 h0 100000 0 0 q107 h110 hM111 f112 q137 hq138 (fun h140 hM141 f142 => ?_)
  show am_S _ _ _ _ _ _ _ (188, [some (.ref 22), none, some (.int q137.1), none, none], [], h140, 0, 0) _
  refine am_steps ok_Mo_resolve 1 (x' := (189, [some (.ref 22), none, some (.int q137.1), none, none], [.ref 22], h140, 0, 0)) rfl (Nat.le_of_ble_eq_true rfl) (Nat.le_of_ble_eq_true rfl) ?_
  refine mr_get ok_Mo_resolve rfl hM141 (v := .int (q137.2.1 31)) rfl (pc' := 192) rfl (Nat.le_of_ble_eq_true rfl) (Nat.le_of_ble_eq_true rfl) ?_
  refine am_steps ok_Mo_resolve 3 (x' := (195, [some (.ref 22), none, some (.int q137.1), some (.int ((q137.2.1 31) - 1)), none], [], h140, 0, 0)) rfl (Nat.le_of_ble_eq_true rfl) (Nat.le_of_ble_eq_true rfl) ?_
  obtain ⟨q165, hq166, hd167⟩ := Option.bind_eq_some_iff.mp hd; clear hd; have hd := hd167; clear hd167
  refine L_Mo_resolve_195 h0 100000 q137.1 ((q137.2.1 31) - 1) q137.2 h140 hM141 f142 q165 hq166 (fun h168 hM169 f170 => ?_)
  show am_S _ _ _ _ _ _ _ (228, [some (.ref 22), none, some (.int q137.1), none, none], [], h168, 0, 0) _
  refine am_steps ok_Mo_resolve 2 (x' := (if (q137.1 : Int32) ≤ 0 then 236 else 232, [some (.ref 22), none, some (.int q137.1), none, none], [], h168, 0, 0)) rfl (Nat.le_of_ble_eq_true rfl) (Nat.le_of_ble_eq_true rfl) ?_
  obtain ⟨u171, hA173, hB174⟩ := Option.bind_eq_some_iff.mp hd; clear hd
  have K172 : ∀ h' : am_H, RM u171 h' → mF h0 h' → am_S am_Pr none 5 129 0 0 71 (236, [some (.ref 22), none, none, none, none], [], h', 0, 0) (mQv q h0) := by
    have hd := hB174
    intro h175 hM176 f177
    refine am_steps ok_Mo_resolve 1 (x' := (237, [some (.ref 22), none, none, none, none], [.ref 22], h175, 0, 0)) rfl (Nat.le_of_ble_eq_true rfl) (Nat.le_of_ble_eq_true rfl) ?_
    obtain ⟨q178, hq179, hd180⟩ := Option.bind_eq_some_iff.mp hd; clear hd; have hd := hd180; clear hd180
    refine ar_cv ok_Mo_resolve hk_Mo_settle rfl rfl (As := []) (ad := 22) (rest := []) rfl rfl hM176.1 (Nat.le_of_ble_eq_true rfl) (k_Mo_settle  u171 h175 hM176 q178 hq179) (Nat.le_of_ble_eq_true rfl) (Nat.le_of_ble_eq_true rfl) (Nat.le_of_ble_eq_true rfl) (Nat.le_of_ble_eq_true rfl) (pc' := 240) rfl (fun r181 h183 z182 => ?_)
    obtain ⟨rfl, hM184, g186⟩ := z182
    have f185 := mF.tr f177 g186
    show am_S _ _ _ _ _ _ _ (240, [some (.ref 22), none, none, none, none], [], h183, 0, 0) _
    cases hd; exact am_ret ok_Mo_resolve rfl (Nat.le_of_ble_eq_true rfl) (Nat.le_of_ble_eq_true rfl) ⟨rfl, hM184, f185⟩
  clear hB174; have hd := hA173; clear hA173
  refine am_if (fun hc187 => ?_) (fun hc187 => ?_)
  · rw [if_pos hc187] at hd
    refine am_drop 2 ?_
    cases hd; exact K172 h168 hM169 f170
  · rw [if_neg hc187] at hd
    refine am_steps ok_Mo_resolve 1 (x' := (233, [some (.ref 22), none, some (.int q137.1), none, none], [.ref 22], h168, 0, 0)) rfl (Nat.le_of_ble_eq_true rfl) (Nat.le_of_ble_eq_true rfl) ?_
    obtain ⟨q188, hq189, hd190⟩ := Option.bind_eq_some_iff.mp hd; clear hd; have hd := hd190; clear hd190
    refine ar_cv ok_Mo_resolve hk_Mo_check rfl rfl (As := []) (ad := 22) (rest := []) rfl rfl hM169.1 (Nat.le_of_ble_eq_true rfl) (k_Mo_check  q165 h168 hM169 q188 hq189) (Nat.le_of_ble_eq_true rfl) (Nat.le_of_ble_eq_true rfl) (Nat.le_of_ble_eq_true rfl) (Nat.le_of_ble_eq_true rfl) (pc' := 236) rfl (fun r191 h193 z192 => ?_)
    obtain ⟨rfl, hM194, g196⟩ := z192
    have f195 := mF.tr f170 g196
    show am_S _ _ _ _ _ _ _ (236, [some (.ref 22), none, some (.int q137.1), none, none], [], h193, 0, 0) _
    refine am_drop 2 ?_
    cases hd; exact K172 h193 hM194 f195
def d_Mo_sendBack (a : Int32) (s : mS) : Option (mS) := (d_Mo_put 66 s).bind fun q1 => ((am_ix a 250).bind fun j10 => ((am_ix (q1.2.2.1 43 j10) 256).bind fun j13 => ((d_Mo_putName (q1.2.2.2 26 j13) 4 q1).bind fun q16 => ((d_Mo_putName (q16.2.2.2 46 j10) 8 q16).bind fun q25 => ((d_Mo_put 10 q25).bind fun q34 => (some q34))))))
set_option maxHeartbeats 4000000 in
set_option maxRecDepth 100000 in
theorem k_Mo_sendBack (a : Int32) (s : mS) (h0 : am_H) (hM : RM s h0) (q : mS) (hd : d_Mo_sendBack a s = some q) : am_Me am_Pr none 2 45 0 0 72 [.ref 22, .int a] h0 (mQv q h0) := by
  refine am_enter (d := hd_Mo_sendBack) rfl (by decide +kernel) (Nat.le_of_ble_eq_true rfl) ?_
  show am_S _ _ _ _ _ _ _ (0, [some (.ref 22), some (.int a)], [], h0, 0, 0) _
  unfold d_Mo_sendBack at hd
  refine am_steps ok_Mo_sendBack 2 (x' := (3, [some (.ref 22), some (.int a)], [.int 66, .ref 22], h0, 0, 0)) rfl (Nat.le_of_ble_eq_true rfl) (Nat.le_of_ble_eq_true rfl) ?_
  obtain ⟨q1, hq2, hd3⟩ := Option.bind_eq_some_iff.mp hd; clear hd; have hd := hd3; clear hd3
  refine ar_cv ok_Mo_sendBack hk_Mo_put rfl rfl (As := [.int 66]) (ad := 22) (rest := []) rfl rfl hM.1 (Nat.le_of_ble_eq_true rfl) (k_Mo_put 66 s h0 hM q1 hq2) (Nat.le_of_ble_eq_true rfl) (Nat.le_of_ble_eq_true rfl) (Nat.le_of_ble_eq_true rfl) (Nat.le_of_ble_eq_true rfl) (pc' := 6) rfl (fun r4 h6 z5 => ?_)
  obtain ⟨rfl, hM7, g9⟩ := z5
  have f8 := mF.tr (mF.rf) g9
  show am_S _ _ _ _ _ _ _ (6, [some (.ref 22), some (.int a)], [], h6, 0, 0) _
  refine am_steps ok_Mo_sendBack 2 (x' := (8, [some (.ref 22), some (.int a)], [.ref 22, .ref 22], h6, 0, 0)) rfl (Nat.le_of_ble_eq_true rfl) (Nat.le_of_ble_eq_true rfl) ?_
  refine mr_get ok_Mo_sendBack rfl hM7 (v := .ref 26) rfl (pc' := 11) rfl (Nat.le_of_ble_eq_true rfl) (Nat.le_of_ble_eq_true rfl) ?_
  refine am_steps ok_Mo_sendBack 1 (x' := (12, [some (.ref 22), some (.int a)], [.ref 22, .ref 26, .ref 22], h6, 0, 0)) rfl (Nat.le_of_ble_eq_true rfl) (Nat.le_of_ble_eq_true rfl) ?_
  refine mr_get ok_Mo_sendBack rfl hM7 (v := .ref 43) rfl (pc' := 15) rfl (Nat.le_of_ble_eq_true rfl) (Nat.le_of_ble_eq_true rfl) ?_
  refine am_steps ok_Mo_sendBack 1 (x' := (16, [some (.ref 22), some (.int a)], [.int a, .ref 43, .ref 26, .ref 22], h6, 0, 0)) rfl (Nat.le_of_ble_eq_true rfl) (Nat.le_of_ble_eq_true rfl) ?_
  obtain ⟨j10, hx11, hd12⟩ := Option.bind_eq_some_iff.mp hd; clear hd; have hd := hd12; clear hd12
  refine mr_iald ok_Mo_sendBack rfl hM7 (N := 250) (by decide) hx11 (pc' := 17) rfl (Nat.le_of_ble_eq_true rfl) (Nat.le_of_ble_eq_true rfl) ?_
  obtain ⟨j13, hx14, hd15⟩ := Option.bind_eq_some_iff.mp hd; clear hd; have hd := hd15; clear hd15
  refine mr_lald ok_Mo_sendBack rfl hM7 (N := 256) (by decide) hx14 (pc' := 18) rfl (Nat.le_of_ble_eq_true rfl) (Nat.le_of_ble_eq_true rfl) ?_
  refine am_steps ok_Mo_sendBack 1 (x' := (19, [some (.ref 22), some (.int a)], [.int 4, .long (q1.2.2.2 26 j13), .ref 22], h6, 0, 0)) rfl (Nat.le_of_ble_eq_true rfl) (Nat.le_of_ble_eq_true rfl) ?_
  obtain ⟨q16, hq17, hd18⟩ := Option.bind_eq_some_iff.mp hd; clear hd; have hd := hd18; clear hd18
  refine ar_cv ok_Mo_sendBack hk_Mo_putName rfl rfl (As := [.long (q1.2.2.2 26 j13), .int 4]) (ad := 22) (rest := []) rfl rfl hM7.1 (Nat.le_of_ble_eq_true rfl) (k_Mo_putName (q1.2.2.2 26 j13) 4 q1 h6 hM7 q16 hq17) (Nat.le_of_ble_eq_true rfl) (Nat.le_of_ble_eq_true rfl) (Nat.le_of_ble_eq_true rfl) (Nat.le_of_ble_eq_true rfl) (pc' := 22) rfl (fun r19 h21 z20 => ?_)
  obtain ⟨rfl, hM22, g24⟩ := z20
  have f23 := mF.tr f8 g24
  show am_S _ _ _ _ _ _ _ (22, [some (.ref 22), some (.int a)], [], h21, 0, 0) _
  refine am_steps ok_Mo_sendBack 2 (x' := (24, [some (.ref 22), some (.int a)], [.ref 22, .ref 22], h21, 0, 0)) rfl (Nat.le_of_ble_eq_true rfl) (Nat.le_of_ble_eq_true rfl) ?_
  refine mr_get ok_Mo_sendBack rfl hM22 (v := .ref 46) rfl (pc' := 27) rfl (Nat.le_of_ble_eq_true rfl) (Nat.le_of_ble_eq_true rfl) ?_
  refine am_steps ok_Mo_sendBack 1 (x' := (28, [some (.ref 22), some (.int a)], [.int a, .ref 46, .ref 22], h21, 0, 0)) rfl (Nat.le_of_ble_eq_true rfl) (Nat.le_of_ble_eq_true rfl) ?_
  refine mr_lald ok_Mo_sendBack rfl hM22 (N := 250) (by decide) hx11 (pc' := 29) rfl (Nat.le_of_ble_eq_true rfl) (Nat.le_of_ble_eq_true rfl) ?_
  refine am_steps ok_Mo_sendBack 1 (x' := (31, [some (.ref 22), some (.int a)], [.int 8, .long (q16.2.2.2 46 j10), .ref 22], h21, 0, 0)) rfl (Nat.le_of_ble_eq_true rfl) (Nat.le_of_ble_eq_true rfl) ?_
  obtain ⟨q25, hq26, hd27⟩ := Option.bind_eq_some_iff.mp hd; clear hd; have hd := hd27; clear hd27
  refine ar_cv ok_Mo_sendBack hk_Mo_putName rfl rfl (As := [.long (q16.2.2.2 46 j10), .int 8]) (ad := 22) (rest := []) rfl rfl hM22.1 (Nat.le_of_ble_eq_true rfl) (k_Mo_putName (q16.2.2.2 46 j10) 8 q16 h21 hM22 q25 hq26) (Nat.le_of_ble_eq_true rfl) (Nat.le_of_ble_eq_true rfl) (Nat.le_of_ble_eq_true rfl) (Nat.le_of_ble_eq_true rfl) (pc' := 34) rfl (fun r28 h30 z29 => ?_)
  obtain ⟨rfl, hM31, g33⟩ := z29
  have f32 := mF.tr f23 g33
  show am_S _ _ _ _ _ _ _ (34, [some (.ref 22), some (.int a)], [], h30, 0, 0) _
  refine am_steps ok_Mo_sendBack 2 (x' := (37, [some (.ref 22), some (.int a)], [.int 10, .ref 22], h30, 0, 0)) rfl (Nat.le_of_ble_eq_true rfl) (Nat.le_of_ble_eq_true rfl) ?_
  obtain ⟨q34, hq35, hd36⟩ := Option.bind_eq_some_iff.mp hd; clear hd; have hd := hd36; clear hd36
  refine ar_cv ok_Mo_sendBack hk_Mo_put rfl rfl (As := [.int 10]) (ad := 22) (rest := []) rfl rfl hM31.1 (Nat.le_of_ble_eq_true rfl) (k_Mo_put 10 q25 h30 hM31 q34 hq35) (Nat.le_of_ble_eq_true rfl) (Nat.le_of_ble_eq_true rfl) (Nat.le_of_ble_eq_true rfl) (Nat.le_of_ble_eq_true rfl) (pc' := 40) rfl (fun r37 h39 z38 => ?_)
  obtain ⟨rfl, hM40, g42⟩ := z38
  have f41 := mF.tr f32 g42
  show am_S _ _ _ _ _ _ _ (40, [some (.ref 22), some (.int a)], [], h39, 0, 0) _
  cases hd; exact am_ret ok_Mo_sendBack rfl (Nat.le_of_ble_eq_true rfl) (Nat.le_of_ble_eq_true rfl) ⟨rfl, hM40, f41⟩
def l_Mo_endDay_6 : Nat → Int32 → mS → Option (mS)
  | 0, _, _ => none
  | fu + 1, v1, s => if ((s.1 32) : Int32) ≤ v1 then (some s) else ((am_ix v1 250).bind fun j11 => ((d_Mo_sendBack (s.2.2.1 55 j11) s).bind fun q14 => (l_Mo_endDay_6 fu (v1 + 1) q14)))
set_option maxHeartbeats 4000000 in
set_option maxRecDepth 100000 in
theorem L_Mo_endDay_6 {Q : Option Value → am_H → Prop} (h0 : am_H) : ∀ (fu : Nat) (v1 : Int32) (s : mS) (h : am_H), RM s h → mF h0 h → ∀ q : mS, l_Mo_endDay_6 fu v1 s = some q → (∀ h' : am_H, RM q h' → mF h0 h' → am_S am_Pr none 3 66 0 0 73 (30, [some (.ref 22), none], [], h', 0, 0) Q) → am_S am_Pr none 3 66 0 0 73 (6, [some (.ref 22), some (.int v1)], [], h, 0, 0) Q := by
  intro fu
  induction fu with
  | zero => intro v1 s h hM f q hd; cases hd
  | succ fu ih =>
    intro v1 s h hM f q hd kk
    unfold l_Mo_endDay_6 at hd
    refine am_steps ok_Mo_endDay 2 (x' := (8, [some (.ref 22), some (.int v1)], [.ref 22, .int v1], h, 0, 0)) rfl (Nat.le_of_ble_eq_true rfl) (Nat.le_of_ble_eq_true rfl) ?_
    refine mr_get ok_Mo_endDay rfl hM (v := .int (s.1 32)) rfl (pc' := 11) rfl (Nat.le_of_ble_eq_true rfl) (Nat.le_of_ble_eq_true rfl) ?_
    refine am_steps ok_Mo_endDay 1 (x' := (if ((s.1 32) : Int32) ≤ v1 then 30 else 14, [some (.ref 22), some (.int v1)], [], h, 0, 0)) rfl (Nat.le_of_ble_eq_true rfl) (Nat.le_of_ble_eq_true rfl) ?_
    refine am_if (fun hc10 => ?_) (fun hc10 => ?_)
    · rw [if_pos hc10] at hd
      refine am_drop 1 ?_
      cases hd; exact kk h hM f
    · rw [if_neg hc10] at hd
      refine am_steps ok_Mo_endDay 2 (x' := (16, [some (.ref 22), some (.int v1)], [.ref 22, .ref 22], h, 0, 0)) rfl (Nat.le_of_ble_eq_true rfl) (Nat.le_of_ble_eq_true rfl) ?_
      refine mr_get ok_Mo_endDay rfl hM (v := .ref 55) rfl (pc' := 19) rfl (Nat.le_of_ble_eq_true rfl) (Nat.le_of_ble_eq_true rfl) ?_
      refine am_steps ok_Mo_endDay 1 (x' := (20, [some (.ref 22), some (.int v1)], [.int v1, .ref 55, .ref 22], h, 0, 0)) rfl (Nat.le_of_ble_eq_true rfl) (Nat.le_of_ble_eq_true rfl) ?_
      obtain ⟨j11, hx12, hd13⟩ := Option.bind_eq_some_iff.mp hd; clear hd; have hd := hd13; clear hd13
      refine mr_iald ok_Mo_endDay rfl hM (N := 250) (by decide) hx12 (pc' := 21) rfl (Nat.le_of_ble_eq_true rfl) (Nat.le_of_ble_eq_true rfl) ?_
      obtain ⟨q14, hq15, hd16⟩ := Option.bind_eq_some_iff.mp hd; clear hd; have hd := hd16; clear hd16
      refine ar_cv ok_Mo_endDay hk_Mo_sendBack rfl rfl (As := [.int (s.2.2.1 55 j11)]) (ad := 22) (rest := []) rfl rfl hM.1 (Nat.le_of_ble_eq_true rfl) (k_Mo_sendBack (s.2.2.1 55 j11) s h hM q14 hq15) (Nat.le_of_ble_eq_true rfl) (Nat.le_of_ble_eq_true rfl) (Nat.le_of_ble_eq_true rfl) (Nat.le_of_ble_eq_true rfl) (pc' := 24) rfl (fun r17 h19 z18 => ?_)
      obtain ⟨rfl, hM20, g22⟩ := z18
      have f21 := mF.tr f g22
      show am_S _ _ _ _ _ _ _ (24, [some (.ref 22), some (.int v1)], [], h19, 0, 0) _
      refine am_steps ok_Mo_endDay 2 (x' := (6, [some (.ref 22), some (.int (v1 + 1))], [], h19, 0, 0)) rfl (Nat.le_of_ble_eq_true rfl) (Nat.le_of_ble_eq_true rfl) ?_
      exact ih (v1 + 1) q14 h19 hM20 f21 q hd kk
def l_Mo_endDay_32 : Nat → Int32 → mS → Option (mS)
  | 0, _, _ => none
  | fu + 1, v1, s => if ((s.1 31) : Int32) ≤ v1 then (some s) else ((am_ix v1 250).bind fun j30 => ((if ¬ ((s.2.2.1 48 j30) : Int32) = 0 then (some s) else ((d_Mo_sendBack v1 s).bind fun q41 => (some q41))).bind fun (u33 : mS) => (l_Mo_endDay_32 fu (v1 + 1) u33)))
set_option maxHeartbeats 4000000 in
set_option maxRecDepth 100000 in
theorem L_Mo_endDay_32 {Q : Option Value → am_H → Prop} (h0 : am_H) : ∀ (fu : Nat) (v1 : Int32) (s : mS) (h : am_H), RM s h → mF h0 h → ∀ q : mS, l_Mo_endDay_32 fu v1 s = some q → (∀ h' : am_H, RM q h' → mF h0 h' → am_S am_Pr none 3 66 0 0 73 (60, [some (.ref 22), none], [], h', 0, 0) Q) → am_S am_Pr none 3 66 0 0 73 (32, [some (.ref 22), some (.int v1)], [], h, 0, 0) Q := by
  intro fu
  induction fu with
  | zero => intro v1 s h hM f q hd; cases hd
  | succ fu ih =>
    intro v1 s h hM f q hd kk
    unfold l_Mo_endDay_32 at hd
    refine am_steps ok_Mo_endDay 2 (x' := (34, [some (.ref 22), some (.int v1)], [.ref 22, .int v1], h, 0, 0)) rfl (Nat.le_of_ble_eq_true rfl) (Nat.le_of_ble_eq_true rfl) ?_
    refine mr_get ok_Mo_endDay rfl hM (v := .int (s.1 31)) rfl (pc' := 37) rfl (Nat.le_of_ble_eq_true rfl) (Nat.le_of_ble_eq_true rfl) ?_
    refine am_steps ok_Mo_endDay 1 (x' := (if ((s.1 31) : Int32) ≤ v1 then 60 else 40, [some (.ref 22), some (.int v1)], [], h, 0, 0)) rfl (Nat.le_of_ble_eq_true rfl) (Nat.le_of_ble_eq_true rfl) ?_
    refine am_if (fun hc29 => ?_) (fun hc29 => ?_)
    · rw [if_pos hc29] at hd
      refine am_drop 1 ?_
      cases hd; exact kk h hM f
    · rw [if_neg hc29] at hd
      refine am_steps ok_Mo_endDay 1 (x' := (41, [some (.ref 22), some (.int v1)], [.ref 22], h, 0, 0)) rfl (Nat.le_of_ble_eq_true rfl) (Nat.le_of_ble_eq_true rfl) ?_
      refine mr_get ok_Mo_endDay rfl hM (v := .ref 48) rfl (pc' := 44) rfl (Nat.le_of_ble_eq_true rfl) (Nat.le_of_ble_eq_true rfl) ?_
      refine am_steps ok_Mo_endDay 1 (x' := (45, [some (.ref 22), some (.int v1)], [.int v1, .ref 48], h, 0, 0)) rfl (Nat.le_of_ble_eq_true rfl) (Nat.le_of_ble_eq_true rfl) ?_
      obtain ⟨j30, hx31, hd32⟩ := Option.bind_eq_some_iff.mp hd; clear hd; have hd := hd32; clear hd32
      refine mr_bald ok_Mo_endDay rfl hM (N := 250) (by decide) (Or.inr rfl) hx31 (pc' := 46) rfl (Nat.le_of_ble_eq_true rfl) (Nat.le_of_ble_eq_true rfl) ?_
      refine am_steps ok_Mo_endDay 1 (x' := (if ¬ ((s.2.2.1 48 j30) : Int32) = 0 then 54 else 49, [some (.ref 22), some (.int v1)], [], h, 0, 0)) rfl (Nat.le_of_ble_eq_true rfl) (Nat.le_of_ble_eq_true rfl) ?_
      obtain ⟨u33, hA35, hB36⟩ := Option.bind_eq_some_iff.mp hd; clear hd
      have K34 : ∀ h' : am_H, RM u33 h' → mF h0 h' → am_S am_Pr none 3 66 0 0 73 (54, [some (.ref 22), some (.int v1)], [], h', 0, 0) Q := by
        have hd := hB36
        intro h37 hM38 f39
        refine am_steps ok_Mo_endDay 2 (x' := (32, [some (.ref 22), some (.int (v1 + 1))], [], h37, 0, 0)) rfl (Nat.le_of_ble_eq_true rfl) (Nat.le_of_ble_eq_true rfl) ?_
        exact ih (v1 + 1) u33 h37 hM38 f39 q hd kk
      clear hB36; have hd := hA35; clear hA35
      refine am_if (fun hc40 => ?_) (fun hc40 => ?_)
      · rw [if_pos hc40] at hd
        cases hd; exact K34 h hM f
      · rw [if_neg hc40] at hd
        refine am_steps ok_Mo_endDay 2 (x' := (51, [some (.ref 22), some (.int v1)], [.int v1, .ref 22], h, 0, 0)) rfl (Nat.le_of_ble_eq_true rfl) (Nat.le_of_ble_eq_true rfl) ?_
        obtain ⟨q41, hq42, hd43⟩ := Option.bind_eq_some_iff.mp hd; clear hd; have hd := hd43; clear hd43
        refine ar_cv ok_Mo_endDay hk_Mo_sendBack rfl rfl (As := [.int v1]) (ad := 22) (rest := []) rfl rfl hM.1 (Nat.le_of_ble_eq_true rfl) (k_Mo_sendBack v1 s h hM q41 hq42) (Nat.le_of_ble_eq_true rfl) (Nat.le_of_ble_eq_true rfl) (Nat.le_of_ble_eq_true rfl) (Nat.le_of_ble_eq_true rfl) (pc' := 54) rfl (fun r44 h46 z45 => ?_)
        obtain ⟨rfl, hM47, g49⟩ := z45
        have f48 := mF.tr f g49
        show am_S _ _ _ _ _ _ _ (54, [some (.ref 22), some (.int v1)], [], h46, 0, 0) _
        cases hd; exact K34 h46 hM47 f48
def d_Mo_endDay  (s : mS) : Option (mS) := (d_Mo_sort  s).bind fun q1 => ((l_Mo_endDay_6 100000 0 q1).bind fun q23 => ((l_Mo_endDay_32 100000 0 q23).bind fun q50 => (some (mI q50 31 0))))
set_option maxHeartbeats 4000000 in
set_option maxRecDepth 100000 in
theorem k_Mo_endDay  (s : mS) (h0 : am_H) (hM : RM s h0) (q : mS) (hd : d_Mo_endDay  s = some q) : am_Me am_Pr none 3 66 0 0 73 [.ref 22] h0 (mQv q h0) := by
  refine am_enter (d := hd_Mo_endDay) rfl (by decide +kernel) (Nat.le_of_ble_eq_true rfl) ?_
  show am_S _ _ _ _ _ _ _ (0, [some (.ref 22), none], [], h0, 0, 0) _
  unfold d_Mo_endDay at hd
  refine am_steps ok_Mo_endDay 1 (x' := (1, [some (.ref 22), none], [.ref 22], h0, 0, 0)) rfl (Nat.le_of_ble_eq_true rfl) (Nat.le_of_ble_eq_true rfl) ?_
  obtain ⟨q1, hq2, hd3⟩ := Option.bind_eq_some_iff.mp hd; clear hd; have hd := hd3; clear hd3
  refine ar_cv ok_Mo_endDay hk_Mo_sort rfl rfl (As := []) (ad := 22) (rest := []) rfl rfl hM.1 (Nat.le_of_ble_eq_true rfl) (k_Mo_sort  s h0 hM q1 hq2) (Nat.le_of_ble_eq_true rfl) (Nat.le_of_ble_eq_true rfl) (Nat.le_of_ble_eq_true rfl) (Nat.le_of_ble_eq_true rfl) (pc' := 4) rfl (fun r4 h6 z5 => ?_)
  obtain ⟨rfl, hM7, g9⟩ := z5
  have f8 := mF.tr (mF.rf) g9
  show am_S _ _ _ _ _ _ _ (4, [some (.ref 22), none], [], h6, 0, 0) _
  refine am_steps ok_Mo_endDay 2 (x' := (6, [some (.ref 22), some (.int 0)], [], h6, 0, 0)) rfl (Nat.le_of_ble_eq_true rfl) (Nat.le_of_ble_eq_true rfl) ?_
  obtain ⟨q23, hq24, hd25⟩ := Option.bind_eq_some_iff.mp hd; clear hd; have hd := hd25; clear hd25
  refine L_Mo_endDay_6 h0 100000 0 q1 h6 hM7 f8 q23 hq24 (fun h26 hM27 f28 => ?_)
  show am_S _ _ _ _ _ _ _ (30, [some (.ref 22), none], [], h26, 0, 0) _
  refine am_steps ok_Mo_endDay 2 (x' := (32, [some (.ref 22), some (.int 0)], [], h26, 0, 0)) rfl (Nat.le_of_ble_eq_true rfl) (Nat.le_of_ble_eq_true rfl) ?_
  obtain ⟨q50, hq51, hd52⟩ := Option.bind_eq_some_iff.mp hd; clear hd; have hd := hd52; clear hd52
  refine L_Mo_endDay_32 h0 100000 0 q23 h26 hM27 f28 q50 hq51 (fun h53 hM54 f55 => ?_)
  show am_S _ _ _ _ _ _ _ (60, [some (.ref 22), none], [], h53, 0, 0) _
  refine am_steps ok_Mo_endDay 2 (x' := (62, [some (.ref 22), none], [.int 0, .ref 22], h53, 0, 0)) rfl (Nat.le_of_ble_eq_true rfl) (Nat.le_of_ble_eq_true rfl) ?_
  refine mr_put ok_Mo_endDay rfl hM54 (by decide) rfl (s' := (mI q50 31 0)) (mfs_31 _ _) rfl (pc' := 65) rfl (Nat.le_of_ble_eq_true rfl) (Nat.le_of_ble_eq_true rfl) (fun h56 hM57 g59 => ?_)
  have f58 := mF.tr f55 g59
  cases hd; exact am_ret ok_Mo_endDay rfl (Nat.le_of_ble_eq_true rfl) (Nat.le_of_ble_eq_true rfl) ⟨rfl, hM57, f58⟩
def l_Mo_keep_2 : Nat → Int32 → mS → Option (mS)
  | 0, _, _ => none
  | fu + 1, v1, s => if ((s.1 3) : Int32) ≤ v1 then (some s) else ((am_ix v1 400).bind fun j2 => ((am_ix ((123 * (s.1 30)) + v1) 246000).bind fun j5 => (l_Mo_keep_2 fu (v1 + 1) (mA s 39 j5 (am_bn 2 (s.2.2.1 24 j2))))))
set_option maxHeartbeats 4000000 in
set_option maxRecDepth 100000 in
theorem L_Mo_keep_2 {Q : Option Value → am_H → Prop} (h0 : am_H) : ∀ (fu : Nat) (v1 : Int32) (s : mS) (h : am_H), RM s h → mF h0 h → ∀ q : mS, l_Mo_keep_2 fu v1 s = some q → (∀ h' : am_H, RM q h' → mF h0 h' → am_S am_Pr none 1 25 0 0 74 (36, [some (.ref 22), none], [], h', 0, 0) Q) → am_S am_Pr none 1 25 0 0 74 (2, [some (.ref 22), some (.int v1)], [], h, 0, 0) Q := by
  intro fu
  induction fu with
  | zero => intro v1 s h hM f q hd; cases hd
  | succ fu ih =>
    intro v1 s h hM f q hd kk
    unfold l_Mo_keep_2 at hd
    refine am_steps ok_Mo_keep 2 (x' := (4, [some (.ref 22), some (.int v1)], [.ref 22, .int v1], h, 0, 0)) rfl (Nat.le_of_ble_eq_true rfl) (Nat.le_of_ble_eq_true rfl) ?_
    refine mr_get ok_Mo_keep rfl hM (v := .int (s.1 3)) rfl (pc' := 7) rfl (Nat.le_of_ble_eq_true rfl) (Nat.le_of_ble_eq_true rfl) ?_
    refine am_steps ok_Mo_keep 1 (x' := (if ((s.1 3) : Int32) ≤ v1 then 36 else 10, [some (.ref 22), some (.int v1)], [], h, 0, 0)) rfl (Nat.le_of_ble_eq_true rfl) (Nat.le_of_ble_eq_true rfl) ?_
    refine am_if (fun hc1 => ?_) (fun hc1 => ?_)
    · rw [if_pos hc1] at hd
      refine am_drop 1 ?_
      cases hd; exact kk h hM f
    · rw [if_neg hc1] at hd
      refine am_steps ok_Mo_keep 1 (x' := (11, [some (.ref 22), some (.int v1)], [.ref 22], h, 0, 0)) rfl (Nat.le_of_ble_eq_true rfl) (Nat.le_of_ble_eq_true rfl) ?_
      refine mr_get ok_Mo_keep rfl hM (v := .ref 39) rfl (pc' := 14) rfl (Nat.le_of_ble_eq_true rfl) (Nat.le_of_ble_eq_true rfl) ?_
      refine am_steps ok_Mo_keep 2 (x' := (17, [some (.ref 22), some (.int v1)], [.ref 22, .int 123, .ref 39], h, 0, 0)) rfl (Nat.le_of_ble_eq_true rfl) (Nat.le_of_ble_eq_true rfl) ?_
      refine mr_get ok_Mo_keep rfl hM (v := .int (s.1 30)) rfl (pc' := 20) rfl (Nat.le_of_ble_eq_true rfl) (Nat.le_of_ble_eq_true rfl) ?_
      refine am_steps ok_Mo_keep 4 (x' := (24, [some (.ref 22), some (.int v1)], [.ref 22, .int ((123 * (s.1 30)) + v1), .ref 39], h, 0, 0)) rfl (Nat.le_of_ble_eq_true rfl) (Nat.le_of_ble_eq_true rfl) ?_
      refine mr_get ok_Mo_keep rfl hM (v := .ref 24) rfl (pc' := 27) rfl (Nat.le_of_ble_eq_true rfl) (Nat.le_of_ble_eq_true rfl) ?_
      refine am_steps ok_Mo_keep 1 (x' := (28, [some (.ref 22), some (.int v1)], [.int v1, .ref 24, .int ((123 * (s.1 30)) + v1), .ref 39], h, 0, 0)) rfl (Nat.le_of_ble_eq_true rfl) (Nat.le_of_ble_eq_true rfl) ?_
      obtain ⟨j2, hx3, hd4⟩ := Option.bind_eq_some_iff.mp hd; clear hd; have hd := hd4; clear hd4
      refine mr_bald ok_Mo_keep rfl hM (N := 400) (by decide) (Or.inl rfl) hx3 (pc' := 29) rfl (Nat.le_of_ble_eq_true rfl) (Nat.le_of_ble_eq_true rfl) ?_
      obtain ⟨j5, hx6, hd7⟩ := Option.bind_eq_some_iff.mp hd; clear hd; have hd := hd7; clear hd7
      refine mr_bast ok_Mo_keep rfl hM (N := 246000) (by decide) (Or.inl rfl) hx6 (pc' := 30) rfl (Nat.le_of_ble_eq_true rfl) (Nat.le_of_ble_eq_true rfl) (fun h8 hM9 g11 => ?_)
      have f10 := mF.tr f g11
      refine am_steps ok_Mo_keep 2 (x' := (2, [some (.ref 22), some (.int (v1 + 1))], [], h8, 0, 0)) rfl (Nat.le_of_ble_eq_true rfl) (Nat.le_of_ble_eq_true rfl) ?_
      exact ih (v1 + 1) (mA s 39 j5 (am_bn 2 (s.2.2.1 24 j2))) h8 hM9 f10 q hd kk
def d_Mo_keep  (s : mS) : Option (mS) := (l_Mo_keep_2 100000 0 s).bind fun q12 => ((am_ix (q12.1 30) 2000).bind fun j18 => ((d_Mo_packed 7 8 (mA (mA q12 40 j18 (q12.1 3)) 41 j18 (q12.1 5))).bind fun q29 => (some (mI (mB (mA (mA q12 40 j18 (q12.1 3)) 41 j18 (q12.1 5)) 42 j18 q29) 30 ((q12.1 30) + 1)))))
set_option maxHeartbeats 4000000 in
set_option maxRecDepth 100000 in
theorem k_Mo_keep  (s : mS) (h0 : am_H) (hM : RM s h0) (q : mS) (hd : d_Mo_keep  s = some q) : am_Me am_Pr none 1 25 0 0 74 [.ref 22] h0 (mQv q h0) := by
  refine am_enter (d := hd_Mo_keep) rfl (by decide +kernel) (Nat.le_of_ble_eq_true rfl) ?_
  show am_S _ _ _ _ _ _ _ (0, [some (.ref 22), none], [], h0, 0, 0) _
  unfold d_Mo_keep at hd
  refine am_steps ok_Mo_keep 2 (x' := (2, [some (.ref 22), some (.int 0)], [], h0, 0, 0)) rfl (Nat.le_of_ble_eq_true rfl) (Nat.le_of_ble_eq_true rfl) ?_
  obtain ⟨q12, hq13, hd14⟩ := Option.bind_eq_some_iff.mp hd; clear hd; have hd := hd14; clear hd14
  refine L_Mo_keep_2 h0 100000 0 s h0 hM (mF.rf) q12 hq13 (fun h15 hM16 f17 => ?_)
  show am_S _ _ _ _ _ _ _ (36, [some (.ref 22), none], [], h15, 0, 0) _
  refine am_steps ok_Mo_keep 1 (x' := (37, [some (.ref 22), none], [.ref 22], h15, 0, 0)) rfl (Nat.le_of_ble_eq_true rfl) (Nat.le_of_ble_eq_true rfl) ?_
  refine mr_get ok_Mo_keep rfl hM16 (v := .ref 40) rfl (pc' := 40) rfl (Nat.le_of_ble_eq_true rfl) (Nat.le_of_ble_eq_true rfl) ?_
  refine am_steps ok_Mo_keep 1 (x' := (41, [some (.ref 22), none], [.ref 22, .ref 40], h15, 0, 0)) rfl (Nat.le_of_ble_eq_true rfl) (Nat.le_of_ble_eq_true rfl) ?_
  refine mr_get ok_Mo_keep rfl hM16 (v := .int (q12.1 30)) rfl (pc' := 44) rfl (Nat.le_of_ble_eq_true rfl) (Nat.le_of_ble_eq_true rfl) ?_
  refine am_steps ok_Mo_keep 1 (x' := (45, [some (.ref 22), none], [.ref 22, .int (q12.1 30), .ref 40], h15, 0, 0)) rfl (Nat.le_of_ble_eq_true rfl) (Nat.le_of_ble_eq_true rfl) ?_
  refine mr_get ok_Mo_keep rfl hM16 (v := .int (q12.1 3)) rfl (pc' := 48) rfl (Nat.le_of_ble_eq_true rfl) (Nat.le_of_ble_eq_true rfl) ?_
  obtain ⟨j18, hx19, hd20⟩ := Option.bind_eq_some_iff.mp hd; clear hd; have hd := hd20; clear hd20
  refine mr_iast ok_Mo_keep rfl hM16 (N := 2000) (by decide) hx19 (pc' := 49) rfl (Nat.le_of_ble_eq_true rfl) (Nat.le_of_ble_eq_true rfl) (fun h21 hM22 g24 => ?_)
  have f23 := mF.tr f17 g24
  refine am_steps ok_Mo_keep 1 (x' := (50, [some (.ref 22), none], [.ref 22], h21, 0, 0)) rfl (Nat.le_of_ble_eq_true rfl) (Nat.le_of_ble_eq_true rfl) ?_
  refine mr_get ok_Mo_keep rfl hM22 (v := .ref 41) rfl (pc' := 53) rfl (Nat.le_of_ble_eq_true rfl) (Nat.le_of_ble_eq_true rfl) ?_
  refine am_steps ok_Mo_keep 1 (x' := (54, [some (.ref 22), none], [.ref 22, .ref 41], h21, 0, 0)) rfl (Nat.le_of_ble_eq_true rfl) (Nat.le_of_ble_eq_true rfl) ?_
  refine mr_get ok_Mo_keep rfl hM22 (v := .int (q12.1 30)) rfl (pc' := 57) rfl (Nat.le_of_ble_eq_true rfl) (Nat.le_of_ble_eq_true rfl) ?_
  refine am_steps ok_Mo_keep 1 (x' := (58, [some (.ref 22), none], [.ref 22, .int (q12.1 30), .ref 41], h21, 0, 0)) rfl (Nat.le_of_ble_eq_true rfl) (Nat.le_of_ble_eq_true rfl) ?_
  refine mr_get ok_Mo_keep rfl hM22 (v := .int (q12.1 5)) rfl (pc' := 61) rfl (Nat.le_of_ble_eq_true rfl) (Nat.le_of_ble_eq_true rfl) ?_
  refine mr_iast ok_Mo_keep rfl hM22 (N := 2000) (by decide) hx19 (pc' := 62) rfl (Nat.le_of_ble_eq_true rfl) (Nat.le_of_ble_eq_true rfl) (fun h25 hM26 g28 => ?_)
  have f27 := mF.tr f23 g28
  refine am_steps ok_Mo_keep 1 (x' := (63, [some (.ref 22), none], [.ref 22], h25, 0, 0)) rfl (Nat.le_of_ble_eq_true rfl) (Nat.le_of_ble_eq_true rfl) ?_
  refine mr_get ok_Mo_keep rfl hM26 (v := .ref 42) rfl (pc' := 66) rfl (Nat.le_of_ble_eq_true rfl) (Nat.le_of_ble_eq_true rfl) ?_
  refine am_steps ok_Mo_keep 1 (x' := (67, [some (.ref 22), none], [.ref 22, .ref 42], h25, 0, 0)) rfl (Nat.le_of_ble_eq_true rfl) (Nat.le_of_ble_eq_true rfl) ?_
  refine mr_get ok_Mo_keep rfl hM26 (v := .int (q12.1 30)) rfl (pc' := 70) rfl (Nat.le_of_ble_eq_true rfl) (Nat.le_of_ble_eq_true rfl) ?_
  refine am_steps ok_Mo_keep 3 (x' := (75, [some (.ref 22), none], [.int 8, .int 7, .ref 22, .int (q12.1 30), .ref 42], h25, 0, 0)) rfl (Nat.le_of_ble_eq_true rfl) (Nat.le_of_ble_eq_true rfl) ?_
  obtain ⟨q29, hq30, hd31⟩ := Option.bind_eq_some_iff.mp hd; clear hd; have hd := hd31; clear hd31
  refine ar_cv ok_Mo_keep hk_Mo_packed rfl rfl (As := [.int 7, .int 8]) (ad := 22) (rest := [.int (q12.1 30), .ref 42]) rfl rfl hM26.1 (Nat.le_of_ble_eq_true rfl) (k_Mo_packed 7 8 (mA (mA q12 40 j18 (q12.1 3)) 41 j18 (q12.1 5)) h25 hM26 q29 hq30) (Nat.le_of_ble_eq_true rfl) (Nat.le_of_ble_eq_true rfl) (Nat.le_of_ble_eq_true rfl) (Nat.le_of_ble_eq_true rfl) (pc' := 78) rfl (fun r32 h34 z33 => ?_)
  obtain ⟨z38, z39⟩ := z33; subst z38; rw [z39]
  show am_S _ _ _ _ _ _ _ (78, [some (.ref 22), none], [.long q29, .int (q12.1 30), .ref 42], h25, 0, 0) _
  refine mr_last ok_Mo_keep rfl hM26 (N := 2000) (by decide) hx19 (pc' := 79) rfl (Nat.le_of_ble_eq_true rfl) (Nat.le_of_ble_eq_true rfl) (fun h40 hM41 g43 => ?_)
  have f42 := mF.tr f27 g43
  refine am_steps ok_Mo_keep 2 (x' := (81, [some (.ref 22), none], [.ref 22, .ref 22], h40, 0, 0)) rfl (Nat.le_of_ble_eq_true rfl) (Nat.le_of_ble_eq_true rfl) ?_
  refine mr_get ok_Mo_keep rfl hM41 (v := .int (q12.1 30)) rfl (pc' := 84) rfl (Nat.le_of_ble_eq_true rfl) (Nat.le_of_ble_eq_true rfl) ?_
  refine am_steps ok_Mo_keep 2 (x' := (86, [some (.ref 22), none], [.int ((q12.1 30) + 1), .ref 22], h40, 0, 0)) rfl (Nat.le_of_ble_eq_true rfl) (Nat.le_of_ble_eq_true rfl) ?_
  refine mr_put ok_Mo_keep rfl hM41 (by decide) rfl (s' := (mI (mB (mA (mA q12 40 j18 (q12.1 3)) 41 j18 (q12.1 5)) 42 j18 q29) 30 ((q12.1 30) + 1))) (mfs_30 _ _) rfl (pc' := 89) rfl (Nat.le_of_ble_eq_true rfl) (Nat.le_of_ble_eq_true rfl) (fun h44 hM45 g47 => ?_)
  have f46 := mF.tr f42 g47
  cases hd; exact am_ret ok_Mo_keep rfl (Nat.le_of_ble_eq_true rfl) (Nat.le_of_ble_eq_true rfl) ⟨rfl, hM45, f46⟩
