/-! Methods of the reference as functions of its state. -/
def l_Mo_check_22 : Nat → Int32 → Int32 → Int64 → Int32 → mS → Option (Int32 × Int64)
  | 0, _, _, _, _, _ => none
  | fu + 1, v1, v2, v3, v5, s => if ((s.1 10) : Int32) ≤ v5 then (some (v1, v3)) else ((am_ix ((64 * v5) + v2) 16384).bind fun j6 => ((if ¬ (v1 : Int32) = 0 then (some 1) else ((d_Mo_floor ((64 * v5) + v2) s).bind fun q14 => (if (0 : Int32) ≤ (lg_cmp (s.2.2.2 31 j6) q14) then (some 0) else (some 1)))).bind fun (u9 : Int32) => (l_Mo_check_22 fu u9 v2 (v3 + (s.2.2.2 31 j6)) (v5 + 1) s)))
set_option maxHeartbeats 4000000 in
set_option maxRecDepth 100000 in
theorem L_Mo_check_22 {Q : Option Value → am_H → Prop} (s : mS) (h : am_H) (hM : RM s h) : ∀ (fu : Nat) (v1 : Int32) (v2 : Int32) (v3 : Int64) (v5 : Int32) (q : Int32 × Int64), l_Mo_check_22 fu v1 v2 v3 v5 s = some q → am_S am_Pr none 3 79 0 0 54 (83, [some (.ref 22), some (.int q.1), some (.int v2), some (.long q.2), none, none, none], [], h, 0, 0) Q → am_S am_Pr none 3 79 0 0 54 (22, [some (.ref 22), some (.int v1), some (.int v2), some (.long v3), none, some (.int v5), none], [], h, 0, 0) Q := by
  intro fu
  induction fu with
  | zero => intro v1 v2 v3 v5 q hd; cases hd
  | succ fu ih =>
    intro v1 v2 v3 v5 q hd kk
    unfold l_Mo_check_22 at hd
    refine am_steps ok_Mo_check 2 (x' := (25, [some (.ref 22), some (.int v1), some (.int v2), some (.long v3), none, some (.int v5), none], [.ref 22, .int v5], h, 0, 0)) rfl (Nat.le_of_ble_eq_true rfl) (Nat.le_of_ble_eq_true rfl) ?_
    refine mr_get ok_Mo_check rfl hM (v := .int (s.1 10)) rfl (pc' := 28) rfl (Nat.le_of_ble_eq_true rfl) (Nat.le_of_ble_eq_true rfl) ?_
    refine am_steps ok_Mo_check 1 (x' := (if ((s.1 10) : Int32) ≤ v5 then 83 else 31, [some (.ref 22), some (.int v1), some (.int v2), some (.long v3), none, some (.int v5), none], [], h, 0, 0)) rfl (Nat.le_of_ble_eq_true rfl) (Nat.le_of_ble_eq_true rfl) ?_
    refine am_if (fun hc5 => ?_) (fun hc5 => ?_)
    · rw [if_pos hc5] at hd
      refine am_drop 5 ?_
      cases hd; exact kk
    · rw [if_neg hc5] at hd
      refine am_steps ok_Mo_check 8 (x' := (42, [some (.ref 22), some (.int v1), some (.int v2), some (.long v3), none, some (.int v5), some (.int ((64 * v5) + v2))], [.ref 22, .long v3], h, 0, 0)) rfl (Nat.le_of_ble_eq_true rfl) (Nat.le_of_ble_eq_true rfl) ?_
      refine mr_get ok_Mo_check rfl hM (v := .ref 31) rfl (pc' := 45) rfl (Nat.le_of_ble_eq_true rfl) (Nat.le_of_ble_eq_true rfl) ?_
      refine am_steps ok_Mo_check 1 (x' := (47, [some (.ref 22), some (.int v1), some (.int v2), some (.long v3), none, some (.int v5), some (.int ((64 * v5) + v2))], [.int ((64 * v5) + v2), .ref 31, .long v3], h, 0, 0)) rfl (Nat.le_of_ble_eq_true rfl) (Nat.le_of_ble_eq_true rfl) ?_
      obtain ⟨j6, hx7, hd8⟩ := Option.bind_eq_some_iff.mp hd; clear hd; have hd := hd8; clear hd8
      refine mr_lald ok_Mo_check rfl hM (N := 16384) (by decide) hx7 (pc' := 48) rfl (Nat.le_of_ble_eq_true rfl) (Nat.le_of_ble_eq_true rfl) ?_
      refine am_steps ok_Mo_check 4 (x' := (if ¬ (v1 : Int32) = 0 then 71 else 54, [some (.ref 22), some (.int v1), some (.int v2), some (.long (v3 + (s.2.2.2 31 j6))), none, some (.int v5), some (.int ((64 * v5) + v2))], [], h, 0, 0)) rfl (Nat.le_of_ble_eq_true rfl) (Nat.le_of_ble_eq_true rfl) ?_
      obtain ⟨u9, hA11, hB12⟩ := Option.bind_eq_some_iff.mp hd; clear hd
      have K10 : am_S am_Pr none 3 79 0 0 54 (76, [some (.ref 22), none, some (.int v2), some (.long (v3 + (s.2.2.2 31 j6))), none, some (.int v5), none], [.int u9], h, 0, 0) Q := by
        have hd := hB12
        refine am_steps ok_Mo_check 3 (x' := (22, [some (.ref 22), some (.int u9), some (.int v2), some (.long (v3 + (s.2.2.2 31 j6))), none, some (.int (v5 + 1)), none], [], h, 0, 0)) rfl (Nat.le_of_ble_eq_true rfl) (Nat.le_of_ble_eq_true rfl) ?_
        exact ih u9 v2 (v3 + (s.2.2.2 31 j6)) (v5 + 1) q hd kk
      clear hB12; have hd := hA11; clear hA11
      refine am_if (fun hc13 => ?_) (fun hc13 => ?_)
      · rw [if_pos hc13] at hd
        refine am_steps ok_Mo_check 2 (x' := (76, [some (.ref 22), some (.int v1), some (.int v2), some (.long (v3 + (s.2.2.2 31 j6))), none, some (.int v5), some (.int ((64 * v5) + v2))], [.int 1], h, 0, 0)) rfl (Nat.le_of_ble_eq_true rfl) (Nat.le_of_ble_eq_true rfl) ?_
        refine am_drop 1 ?_
        refine am_drop 6 ?_
        cases hd; exact K10 
      · rw [if_neg hc13] at hd
        refine am_steps ok_Mo_check 1 (x' := (55, [some (.ref 22), some (.int v1), some (.int v2), some (.long (v3 + (s.2.2.2 31 j6))), none, some (.int v5), some (.int ((64 * v5) + v2))], [.ref 22], h, 0, 0)) rfl (Nat.le_of_ble_eq_true rfl) (Nat.le_of_ble_eq_true rfl) ?_
        refine mr_get ok_Mo_check rfl hM (v := .ref 31) rfl (pc' := 58) rfl (Nat.le_of_ble_eq_true rfl) (Nat.le_of_ble_eq_true rfl) ?_
        refine am_steps ok_Mo_check 1 (x' := (60, [some (.ref 22), some (.int v1), some (.int v2), some (.long (v3 + (s.2.2.2 31 j6))), none, some (.int v5), some (.int ((64 * v5) + v2))], [.int ((64 * v5) + v2), .ref 31], h, 0, 0)) rfl (Nat.le_of_ble_eq_true rfl) (Nat.le_of_ble_eq_true rfl) ?_
        refine mr_lald ok_Mo_check rfl hM (N := 16384) (by decide) hx7 (pc' := 61) rfl (Nat.le_of_ble_eq_true rfl) (Nat.le_of_ble_eq_true rfl) ?_
        refine am_steps ok_Mo_check 2 (x' := (64, [some (.ref 22), some (.int v1), some (.int v2), some (.long (v3 + (s.2.2.2 31 j6))), none, some (.int v5), some (.int ((64 * v5) + v2))], [.int ((64 * v5) + v2), .ref 22, .long (s.2.2.2 31 j6)], h, 0, 0)) rfl (Nat.le_of_ble_eq_true rfl) (Nat.le_of_ble_eq_true rfl) ?_
        obtain ⟨q14, hq15, hd16⟩ := Option.bind_eq_some_iff.mp hd; clear hd; have hd := hd16; clear hd16
        refine ar_cv ok_Mo_check hk_Mo_floor rfl rfl (As := [.int ((64 * v5) + v2)]) (ad := 22) (rest := [.long (s.2.2.2 31 j6)]) rfl rfl hM.1 (Nat.le_of_ble_eq_true rfl) (k_Mo_floor ((64 * v5) + v2) s h hM q14 hq15) (Nat.le_of_ble_eq_true rfl) (Nat.le_of_ble_eq_true rfl) (Nat.le_of_ble_eq_true rfl) (Nat.le_of_ble_eq_true rfl) (pc' := 67) rfl (fun r17 h19 z18 => ?_)
        obtain ⟨z23, z24⟩ := z18; subst z23; rw [z24]
        show am_S _ _ _ _ _ _ _ (67, [some (.ref 22), some (.int v1), some (.int v2), some (.long (v3 + (s.2.2.2 31 j6))), none, some (.int v5), some (.int ((64 * v5) + v2))], [.long q14, .long (s.2.2.2 31 j6)], h, 0, 0) _
        refine am_steps ok_Mo_check 2 (x' := (if (0 : Int32) ≤ (lg_cmp (s.2.2.2 31 j6) q14) then 75 else 71, [some (.ref 22), some (.int v1), some (.int v2), some (.long (v3 + (s.2.2.2 31 j6))), none, some (.int v5), some (.int ((64 * v5) + v2))], [], h, 0, 0)) rfl (Nat.le_of_ble_eq_true rfl) (Nat.le_of_ble_eq_true rfl) ?_
        refine am_if (fun hc25 => ?_) (fun hc25 => ?_)
        · rw [if_pos hc25] at hd
          refine am_steps ok_Mo_check 1 (x' := (76, [some (.ref 22), some (.int v1), some (.int v2), some (.long (v3 + (s.2.2.2 31 j6))), none, some (.int v5), some (.int ((64 * v5) + v2))], [.int 0], h, 0, 0)) rfl (Nat.le_of_ble_eq_true rfl) (Nat.le_of_ble_eq_true rfl) ?_
          refine am_drop 1 ?_
          refine am_drop 6 ?_
          cases hd; exact K10 
        · rw [if_neg hc25] at hd
          refine am_steps ok_Mo_check 2 (x' := (76, [some (.ref 22), some (.int v1), some (.int v2), some (.long (v3 + (s.2.2.2 31 j6))), none, some (.int v5), some (.int ((64 * v5) + v2))], [.int 1], h, 0, 0)) rfl (Nat.le_of_ble_eq_true rfl) (Nat.le_of_ble_eq_true rfl) ?_
          refine am_drop 1 ?_
          refine am_drop 6 ?_
          cases hd; exact K10 
def l_Mo_check_4 : Nat → Int32 → Int32 → mS → Option (Int32)
  | 0, _, _, _ => none
  | fu + 1, v1, v2, s => if ((s.1 15) : Int32) ≤ v2 then (some v1) else ((am_ix v2 16384).bind fun j2 => ((l_Mo_check_22 100000 v1 v2 (s.2.2.2 31 j2) 1 s).bind fun q26 => ((if ¬ (q26.1 : Int32) = 0 then (some 1) else (if ((lg_cmp q26.2 0) : Int32) = 0 then (some 0) else (some 1))).bind fun (u29 : Int32) => (l_Mo_check_4 fu u29 (v2 + 1) s))))
set_option maxHeartbeats 4000000 in
set_option maxRecDepth 100000 in
theorem L_Mo_check_4 {Q : Option Value → am_H → Prop} (s : mS) (h : am_H) (hM : RM s h) : ∀ (fu : Nat) (v1 : Int32) (v2 : Int32) (q : Int32), l_Mo_check_4 fu v1 v2 s = some q → am_S am_Pr none 3 79 0 0 54 (105, [some (.ref 22), some (.int q), none, none, none, none, none], [], h, 0, 0) Q → am_S am_Pr none 3 79 0 0 54 (4, [some (.ref 22), some (.int v1), some (.int v2), none, none, none, none], [], h, 0, 0) Q := by
  intro fu
  induction fu with
  | zero => intro v1 v2 q hd; cases hd
  | succ fu ih =>
    intro v1 v2 q hd kk
    unfold l_Mo_check_4 at hd
    refine am_steps ok_Mo_check 2 (x' := (6, [some (.ref 22), some (.int v1), some (.int v2), none, none, none, none], [.ref 22, .int v2], h, 0, 0)) rfl (Nat.le_of_ble_eq_true rfl) (Nat.le_of_ble_eq_true rfl) ?_
    refine mr_get ok_Mo_check rfl hM (v := .int (s.1 15)) rfl (pc' := 9) rfl (Nat.le_of_ble_eq_true rfl) (Nat.le_of_ble_eq_true rfl) ?_
    refine am_steps ok_Mo_check 1 (x' := (if ((s.1 15) : Int32) ≤ v2 then 105 else 12, [some (.ref 22), some (.int v1), some (.int v2), none, none, none, none], [], h, 0, 0)) rfl (Nat.le_of_ble_eq_true rfl) (Nat.le_of_ble_eq_true rfl) ?_
    refine am_if (fun hc1 => ?_) (fun hc1 => ?_)
    · rw [if_pos hc1] at hd
      refine am_drop 2 ?_
      cases hd; exact kk
    · rw [if_neg hc1] at hd
      refine am_steps ok_Mo_check 1 (x' := (13, [some (.ref 22), some (.int v1), some (.int v2), none, none, none, none], [.ref 22], h, 0, 0)) rfl (Nat.le_of_ble_eq_true rfl) (Nat.le_of_ble_eq_true rfl) ?_
      refine mr_get ok_Mo_check rfl hM (v := .ref 31) rfl (pc' := 16) rfl (Nat.le_of_ble_eq_true rfl) (Nat.le_of_ble_eq_true rfl) ?_
      refine am_steps ok_Mo_check 1 (x' := (17, [some (.ref 22), some (.int v1), some (.int v2), none, none, none, none], [.int v2, .ref 31], h, 0, 0)) rfl (Nat.le_of_ble_eq_true rfl) (Nat.le_of_ble_eq_true rfl) ?_
      obtain ⟨j2, hx3, hd4⟩ := Option.bind_eq_some_iff.mp hd; clear hd; have hd := hd4; clear hd4
      refine mr_lald ok_Mo_check rfl hM (N := 16384) (by decide) hx3 (pc' := 18) rfl (Nat.le_of_ble_eq_true rfl) (Nat.le_of_ble_eq_true rfl) ?_
      refine am_steps ok_Mo_check 3 (x' := (22, [some (.ref 22), some (.int v1), some (.int v2), some (.long (s.2.2.2 31 j2)), none, some (.int 1), none], [], h, 0, 0)) rfl (Nat.le_of_ble_eq_true rfl) (Nat.le_of_ble_eq_true rfl) ?_
      obtain ⟨q26, hq27, hd28⟩ := Option.bind_eq_some_iff.mp hd; clear hd; have hd := hd28; clear hd28
      refine L_Mo_check_22 s h hM 100000 v1 v2 (s.2.2.2 31 j2) 1 q26 hq27 ?_
      show am_S _ _ _ _ _ _ _ (83, [some (.ref 22), some (.int q26.1), some (.int v2), some (.long q26.2), none, none, none], [], h, 0, 0) _
      refine am_steps ok_Mo_check 2 (x' := (if ¬ (q26.1 : Int32) = 0 then 93 else 87, [some (.ref 22), some (.int q26.1), some (.int v2), some (.long q26.2), none, none, none], [], h, 0, 0)) rfl (Nat.le_of_ble_eq_true rfl) (Nat.le_of_ble_eq_true rfl) ?_
      obtain ⟨u29, hA31, hB32⟩ := Option.bind_eq_some_iff.mp hd; clear hd
      have K30 : am_S am_Pr none 3 79 0 0 54 (98, [some (.ref 22), none, some (.int v2), none, none, none, none], [.int u29], h, 0, 0) Q := by
        have hd := hB32
        refine am_steps ok_Mo_check 3 (x' := (4, [some (.ref 22), some (.int u29), some (.int (v2 + 1)), none, none, none, none], [], h, 0, 0)) rfl (Nat.le_of_ble_eq_true rfl) (Nat.le_of_ble_eq_true rfl) ?_
        exact ih u29 (v2 + 1) q hd kk
      clear hB32; have hd := hA31; clear hA31
      refine am_if (fun hc33 => ?_) (fun hc33 => ?_)
      · rw [if_pos hc33] at hd
        refine am_steps ok_Mo_check 2 (x' := (98, [some (.ref 22), some (.int q26.1), some (.int v2), some (.long q26.2), none, none, none], [.int 1], h, 0, 0)) rfl (Nat.le_of_ble_eq_true rfl) (Nat.le_of_ble_eq_true rfl) ?_
        refine am_drop 1 ?_
        refine am_drop 3 ?_
        cases hd; exact K30 
      · rw [if_neg hc33] at hd
        refine am_steps ok_Mo_check 4 (x' := (if ((lg_cmp q26.2 0) : Int32) = 0 then 97 else 93, [some (.ref 22), some (.int q26.1), some (.int v2), some (.long q26.2), none, none, none], [], h, 0, 0)) rfl (Nat.le_of_ble_eq_true rfl) (Nat.le_of_ble_eq_true rfl) ?_
        refine am_if (fun hc34 => ?_) (fun hc34 => ?_)
        · rw [if_pos hc34] at hd
          refine am_steps ok_Mo_check 1 (x' := (98, [some (.ref 22), some (.int q26.1), some (.int v2), some (.long q26.2), none, none, none], [.int 0], h, 0, 0)) rfl (Nat.le_of_ble_eq_true rfl) (Nat.le_of_ble_eq_true rfl) ?_
          refine am_drop 1 ?_
          refine am_drop 3 ?_
          cases hd; exact K30 
        · rw [if_neg hc34] at hd
          refine am_steps ok_Mo_check 2 (x' := (98, [some (.ref 22), some (.int q26.1), some (.int v2), some (.long q26.2), none, none, none], [.int 1], h, 0, 0)) rfl (Nat.le_of_ble_eq_true rfl) (Nat.le_of_ble_eq_true rfl) ?_
          refine am_drop 1 ?_
          refine am_drop 3 ?_
          cases hd; exact K30 
def l_Mo_check_117 : Nat → Int32 → Int32 → Int32 → mS → Option (Int32)
  | 0, _, _, _, _ => none
  | fu + 1, v1, v2, v3, s => if ((s.1 10) : Int32) ≤ v3 then (some v1) else ((if ¬ (v1 : Int32) = 0 then (some 1) else ((am_ix ((256 * v2) + v3) 65536).bind fun j45 => (if ((lg_cmp (s.2.2.2 38 j45) 0) : Int32) < 0 then (some 0) else (if (0 : Int32) ≤ (lg_cmp (s.2.2.2 38 j45) (s.2.2.2 37 j45)) then (some 0) else (some 1))))).bind fun (u40 : Int32) => (l_Mo_check_117 fu u40 v2 (v3 + 1) s))
set_option maxHeartbeats 4000000 in
set_option maxRecDepth 100000 in
theorem L_Mo_check_117 {Q : Option Value → am_H → Prop} (s : mS) (h : am_H) (hM : RM s h) : ∀ (fu : Nat) (v1 : Int32) (v2 : Int32) (v3 : Int32) (q : Int32), l_Mo_check_117 fu v1 v2 v3 s = some q → am_S am_Pr none 3 79 0 0 54 (186, [some (.ref 22), some (.int q), some (.int v2), none, none, none, none], [], h, 0, 0) Q → am_S am_Pr none 3 79 0 0 54 (117, [some (.ref 22), some (.int v1), some (.int v2), some (.int v3), none, none, none], [], h, 0, 0) Q := by
  intro fu
  induction fu with
  | zero => intro v1 v2 v3 q hd; cases hd
  | succ fu ih =>
    intro v1 v2 v3 q hd kk
    unfold l_Mo_check_117 at hd
    refine am_steps ok_Mo_check 2 (x' := (119, [some (.ref 22), some (.int v1), some (.int v2), some (.int v3), none, none, none], [.ref 22, .int v3], h, 0, 0)) rfl (Nat.le_of_ble_eq_true rfl) (Nat.le_of_ble_eq_true rfl) ?_
    refine mr_get ok_Mo_check rfl hM (v := .int (s.1 10)) rfl (pc' := 122) rfl (Nat.le_of_ble_eq_true rfl) (Nat.le_of_ble_eq_true rfl) ?_
    refine am_steps ok_Mo_check 1 (x' := (if ((s.1 10) : Int32) ≤ v3 then 186 else 125, [some (.ref 22), some (.int v1), some (.int v2), some (.int v3), none, none, none], [], h, 0, 0)) rfl (Nat.le_of_ble_eq_true rfl) (Nat.le_of_ble_eq_true rfl) ?_
    refine am_if (fun hc39 => ?_) (fun hc39 => ?_)
    · rw [if_pos hc39] at hd
      refine am_drop 3 ?_
      cases hd; exact kk
    · rw [if_neg hc39] at hd
      refine am_steps ok_Mo_check 2 (x' := (if ¬ (v1 : Int32) = 0 then 174 else 129, [some (.ref 22), some (.int v1), some (.int v2), some (.int v3), none, none, none], [], h, 0, 0)) rfl (Nat.le_of_ble_eq_true rfl) (Nat.le_of_ble_eq_true rfl) ?_
      obtain ⟨u40, hA42, hB43⟩ := Option.bind_eq_some_iff.mp hd; clear hd
      have K41 : am_S am_Pr none 3 79 0 0 54 (179, [some (.ref 22), none, some (.int v2), some (.int v3), none, none, none], [.int u40], h, 0, 0) Q := by
        have hd := hB43
        refine am_steps ok_Mo_check 3 (x' := (117, [some (.ref 22), some (.int u40), some (.int v2), some (.int (v3 + 1)), none, none, none], [], h, 0, 0)) rfl (Nat.le_of_ble_eq_true rfl) (Nat.le_of_ble_eq_true rfl) ?_
        exact ih u40 v2 (v3 + 1) q hd kk
      clear hB43; have hd := hA42; clear hA42
      refine am_if (fun hc44 => ?_) (fun hc44 => ?_)
      · rw [if_pos hc44] at hd
        refine am_steps ok_Mo_check 2 (x' := (179, [some (.ref 22), some (.int v1), some (.int v2), some (.int v3), none, none, none], [.int 1], h, 0, 0)) rfl (Nat.le_of_ble_eq_true rfl) (Nat.le_of_ble_eq_true rfl) ?_
        refine am_drop 1 ?_
        cases hd; exact K41 
      · rw [if_neg hc44] at hd
        refine am_steps ok_Mo_check 1 (x' := (130, [some (.ref 22), some (.int v1), some (.int v2), some (.int v3), none, none, none], [.ref 22], h, 0, 0)) rfl (Nat.le_of_ble_eq_true rfl) (Nat.le_of_ble_eq_true rfl) ?_
        refine mr_get ok_Mo_check rfl hM (v := .ref 38) rfl (pc' := 133) rfl (Nat.le_of_ble_eq_true rfl) (Nat.le_of_ble_eq_true rfl) ?_
        refine am_steps ok_Mo_check 5 (x' := (140, [some (.ref 22), some (.int v1), some (.int v2), some (.int v3), none, none, none], [.int ((256 * v2) + v3), .ref 38], h, 0, 0)) rfl (Nat.le_of_ble_eq_true rfl) (Nat.le_of_ble_eq_true rfl) ?_
        obtain ⟨j45, hx46, hd47⟩ := Option.bind_eq_some_iff.mp hd; clear hd; have hd := hd47; clear hd47
        refine mr_lald ok_Mo_check rfl hM (N := 65536) (by decide) hx46 (pc' := 141) rfl (Nat.le_of_ble_eq_true rfl) (Nat.le_of_ble_eq_true rfl) ?_
        refine am_steps ok_Mo_check 3 (x' := (if ((lg_cmp (s.2.2.2 38 j45) 0) : Int32) < 0 then 178 else 146, [some (.ref 22), some (.int v1), some (.int v2), some (.int v3), none, none, none], [], h, 0, 0)) rfl (Nat.le_of_ble_eq_true rfl) (Nat.le_of_ble_eq_true rfl) ?_
        refine am_if (fun hc48 => ?_) (fun hc48 => ?_)
        · rw [if_pos hc48] at hd
          refine am_steps ok_Mo_check 1 (x' := (179, [some (.ref 22), some (.int v1), some (.int v2), some (.int v3), none, none, none], [.int 0], h, 0, 0)) rfl (Nat.le_of_ble_eq_true rfl) (Nat.le_of_ble_eq_true rfl) ?_
          refine am_drop 1 ?_
          cases hd; exact K41 
        · rw [if_neg hc48] at hd
          refine am_steps ok_Mo_check 1 (x' := (147, [some (.ref 22), some (.int v1), some (.int v2), some (.int v3), none, none, none], [.ref 22], h, 0, 0)) rfl (Nat.le_of_ble_eq_true rfl) (Nat.le_of_ble_eq_true rfl) ?_
          refine mr_get ok_Mo_check rfl hM (v := .ref 38) rfl (pc' := 150) rfl (Nat.le_of_ble_eq_true rfl) (Nat.le_of_ble_eq_true rfl) ?_
          refine am_steps ok_Mo_check 5 (x' := (157, [some (.ref 22), some (.int v1), some (.int v2), some (.int v3), none, none, none], [.int ((256 * v2) + v3), .ref 38], h, 0, 0)) rfl (Nat.le_of_ble_eq_true rfl) (Nat.le_of_ble_eq_true rfl) ?_
          refine mr_lald ok_Mo_check rfl hM (N := 65536) (by decide) hx46 (pc' := 158) rfl (Nat.le_of_ble_eq_true rfl) (Nat.le_of_ble_eq_true rfl) ?_
          refine am_steps ok_Mo_check 1 (x' := (159, [some (.ref 22), some (.int v1), some (.int v2), some (.int v3), none, none, none], [.ref 22, .long (s.2.2.2 38 j45)], h, 0, 0)) rfl (Nat.le_of_ble_eq_true rfl) (Nat.le_of_ble_eq_true rfl) ?_
          refine mr_get ok_Mo_check rfl hM (v := .ref 37) rfl (pc' := 162) rfl (Nat.le_of_ble_eq_true rfl) (Nat.le_of_ble_eq_true rfl) ?_
          refine am_steps ok_Mo_check 5 (x' := (169, [some (.ref 22), some (.int v1), some (.int v2), some (.int v3), none, none, none], [.int ((256 * v2) + v3), .ref 37, .long (s.2.2.2 38 j45)], h, 0, 0)) rfl (Nat.le_of_ble_eq_true rfl) (Nat.le_of_ble_eq_true rfl) ?_
          refine mr_lald ok_Mo_check rfl hM (N := 65536) (by decide) hx46 (pc' := 170) rfl (Nat.le_of_ble_eq_true rfl) (Nat.le_of_ble_eq_true rfl) ?_
          refine am_steps ok_Mo_check 2 (x' := (if (0 : Int32) ≤ (lg_cmp (s.2.2.2 38 j45) (s.2.2.2 37 j45)) then 178 else 174, [some (.ref 22), some (.int v1), some (.int v2), some (.int v3), none, none, none], [], h, 0, 0)) rfl (Nat.le_of_ble_eq_true rfl) (Nat.le_of_ble_eq_true rfl) ?_
          refine am_if (fun hc49 => ?_) (fun hc49 => ?_)
          · rw [if_pos hc49] at hd
            refine am_steps ok_Mo_check 1 (x' := (179, [some (.ref 22), some (.int v1), some (.int v2), some (.int v3), none, none, none], [.int 0], h, 0, 0)) rfl (Nat.le_of_ble_eq_true rfl) (Nat.le_of_ble_eq_true rfl) ?_
            refine am_drop 1 ?_
            cases hd; exact K41 
          · rw [if_neg hc49] at hd
            refine am_steps ok_Mo_check 2 (x' := (179, [some (.ref 22), some (.int v1), some (.int v2), some (.int v3), none, none, none], [.int 1], h, 0, 0)) rfl (Nat.le_of_ble_eq_true rfl) (Nat.le_of_ble_eq_true rfl) ?_
            refine am_drop 1 ?_
            cases hd; exact K41 
def l_Mo_check_107 : Nat → Int32 → Int32 → mS → Option (Int32)
  | 0, _, _, _ => none
  | fu + 1, v1, v2, s => if ((s.1 10) : Int32) ≤ v2 then (some v1) else ((l_Mo_check_117 100000 v1 v2 0 s).bind fun q50 => (l_Mo_check_107 fu q50 (v2 + 1) s))
set_option maxHeartbeats 4000000 in
set_option maxRecDepth 100000 in
theorem L_Mo_check_107 {Q : Option Value → am_H → Prop} (s : mS) (h : am_H) (hM : RM s h) : ∀ (fu : Nat) (v1 : Int32) (v2 : Int32) (q : Int32), l_Mo_check_107 fu v1 v2 s = some q → am_S am_Pr none 3 79 0 0 54 (192, [some (.ref 22), some (.int q), none, none, none, none, none], [], h, 0, 0) Q → am_S am_Pr none 3 79 0 0 54 (107, [some (.ref 22), some (.int v1), some (.int v2), none, none, none, none], [], h, 0, 0) Q := by
  intro fu
  induction fu with
  | zero => intro v1 v2 q hd; cases hd
  | succ fu ih =>
    intro v1 v2 q hd kk
    unfold l_Mo_check_107 at hd
    refine am_steps ok_Mo_check 2 (x' := (109, [some (.ref 22), some (.int v1), some (.int v2), none, none, none, none], [.ref 22, .int v2], h, 0, 0)) rfl (Nat.le_of_ble_eq_true rfl) (Nat.le_of_ble_eq_true rfl) ?_
    refine mr_get ok_Mo_check rfl hM (v := .int (s.1 10)) rfl (pc' := 112) rfl (Nat.le_of_ble_eq_true rfl) (Nat.le_of_ble_eq_true rfl) ?_
    refine am_steps ok_Mo_check 1 (x' := (if ((s.1 10) : Int32) ≤ v2 then 192 else 115, [some (.ref 22), some (.int v1), some (.int v2), none, none, none, none], [], h, 0, 0)) rfl (Nat.le_of_ble_eq_true rfl) (Nat.le_of_ble_eq_true rfl) ?_
    refine am_if (fun hc38 => ?_) (fun hc38 => ?_)
    · rw [if_pos hc38] at hd
      refine am_drop 2 ?_
      cases hd; exact kk
    · rw [if_neg hc38] at hd
      refine am_steps ok_Mo_check 2 (x' := (117, [some (.ref 22), some (.int v1), some (.int v2), some (.int 0), none, none, none], [], h, 0, 0)) rfl (Nat.le_of_ble_eq_true rfl) (Nat.le_of_ble_eq_true rfl) ?_
      obtain ⟨q50, hq51, hd52⟩ := Option.bind_eq_some_iff.mp hd; clear hd; have hd := hd52; clear hd52
      refine L_Mo_check_117 s h hM 100000 v1 v2 0 q50 hq51 ?_
      show am_S _ _ _ _ _ _ _ (186, [some (.ref 22), some (.int q50), some (.int v2), none, none, none, none], [], h, 0, 0) _
      refine am_steps ok_Mo_check 2 (x' := (107, [some (.ref 22), some (.int q50), some (.int (v2 + 1)), none, none, none, none], [], h, 0, 0)) rfl (Nat.le_of_ble_eq_true rfl) (Nat.le_of_ble_eq_true rfl) ?_
      exact ih q50 (v2 + 1) q hd kk
def d_Mo_check  (s : mS) : Option (mS) := (l_Mo_check_4 100000 0 0 s).bind fun q35 => ((l_Mo_check_107 100000 q35 0 s).bind fun q53 => ((if (q53 : Int32) = 0 then (some 0) else (some 1)).bind fun (u56 : Int32) => (some (mI s 61 ((s.1 61) + u56)))))
set_option maxHeartbeats 4000000 in
set_option maxRecDepth 100000 in
theorem k_Mo_check  (s : mS) (h0 : am_H) (hM : RM s h0) (q : mS) (hd : d_Mo_check  s = some q) : am_Me am_Pr none 3 79 0 0 54 [.ref 22] h0 (mQv q h0) := by
  refine am_enter (d := hd_Mo_check) rfl (by decide +kernel) (Nat.le_of_ble_eq_true rfl) ?_
  show am_S _ _ _ _ _ _ _ (0, [some (.ref 22), none, none, none, none, none, none], [], h0, 0, 0) _
  unfold d_Mo_check at hd
  refine am_steps ok_Mo_check 4 (x' := (4, [some (.ref 22), some (.int 0), some (.int 0), none, none, none, none], [], h0, 0, 0)) rfl (Nat.le_of_ble_eq_true rfl) (Nat.le_of_ble_eq_true rfl) ?_
  obtain ⟨q35, hq36, hd37⟩ := Option.bind_eq_some_iff.mp hd; clear hd; have hd := hd37; clear hd37
  refine L_Mo_check_4 s h0 hM 100000 0 0 q35 hq36 ?_
  show am_S _ _ _ _ _ _ _ (105, [some (.ref 22), some (.int q35), none, none, none, none, none], [], h0, 0, 0) _
  refine am_steps ok_Mo_check 2 (x' := (107, [some (.ref 22), some (.int q35), some (.int 0), none, none, none, none], [], h0, 0, 0)) rfl (Nat.le_of_ble_eq_true rfl) (Nat.le_of_ble_eq_true rfl) ?_
  obtain ⟨q53, hq54, hd55⟩ := Option.bind_eq_some_iff.mp hd; clear hd; have hd := hd55; clear hd55
  refine L_Mo_check_107 s h0 hM 100000 q35 0 q53 hq54 ?_
  show am_S _ _ _ _ _ _ _ (192, [some (.ref 22), some (.int q53), none, none, none, none, none], [], h0, 0, 0) _
  refine am_steps ok_Mo_check 2 (x' := (194, [some (.ref 22), some (.int q53), none, none, none, none, none], [.ref 22, .ref 22], h0, 0, 0)) rfl (Nat.le_of_ble_eq_true rfl) (Nat.le_of_ble_eq_true rfl) ?_
  refine mr_get ok_Mo_check rfl hM (v := .int (s.1 61)) rfl (pc' := 197) rfl (Nat.le_of_ble_eq_true rfl) (Nat.le_of_ble_eq_true rfl) ?_
  refine am_steps ok_Mo_check 2 (x' := (if (q53 : Int32) = 0 then 205 else 201, [some (.ref 22), some (.int q53), none, none, none, none, none], [.int (s.1 61), .ref 22], h0, 0, 0)) rfl (Nat.le_of_ble_eq_true rfl) (Nat.le_of_ble_eq_true rfl) ?_
  obtain ⟨u56, hA58, hB59⟩ := Option.bind_eq_some_iff.mp hd; clear hd
  have K57 : am_S am_Pr none 3 79 0 0 54 (206, [none, none, none, none, none, none, none], [.int u56, .int (s.1 61), .ref 22], h0, 0, 0) (mQv q h0) := by
    have hd := hB59
    refine am_steps ok_Mo_check 1 (x' := (207, [none, none, none, none, none, none, none], [.int ((s.1 61) + u56), .ref 22], h0, 0, 0)) rfl (Nat.le_of_ble_eq_true rfl) (Nat.le_of_ble_eq_true rfl) ?_
    refine mr_put ok_Mo_check rfl hM (by decide) rfl (s' := (mI s 61 ((s.1 61) + u56))) (mfs_61 _ _) rfl (pc' := 210) rfl (Nat.le_of_ble_eq_true rfl) (Nat.le_of_ble_eq_true rfl) (fun h60 hM61 g63 => ?_)
    have f62 := mF.tr (mF.rf) g63
    cases hd; exact am_ret ok_Mo_check rfl (Nat.le_of_ble_eq_true rfl) (Nat.le_of_ble_eq_true rfl) ⟨rfl, hM61, f62⟩
  clear hB59; have hd := hA58; clear hA58
  refine am_if (fun hc64 => ?_) (fun hc64 => ?_)
  · rw [if_pos hc64] at hd
    refine am_steps ok_Mo_check 1 (x' := (206, [some (.ref 22), some (.int q53), none, none, none, none, none], [.int 0, .int (s.1 61), .ref 22], h0, 0, 0)) rfl (Nat.le_of_ble_eq_true rfl) (Nat.le_of_ble_eq_true rfl) ?_
    refine am_drop 0 ?_
    refine am_drop 1 ?_
    cases hd; exact K57 
  · rw [if_neg hc64] at hd
    refine am_steps ok_Mo_check 2 (x' := (206, [some (.ref 22), some (.int q53), none, none, none, none, none], [.int 1, .int (s.1 61), .ref 22], h0, 0, 0)) rfl (Nat.le_of_ble_eq_true rfl) (Nat.le_of_ble_eq_true rfl) ?_
    refine am_drop 0 ?_
    refine am_drop 1 ?_
    cases hd; exact K57 
def l_Mo_net_7 : Nat → Int32 → Int32 → Int64 → Int32 → mS → Option (Int64)
  | 0, _, _, _, _, _ => none
  | fu + 1, v1, v2, v3, v5, s => (am_ix v1 250).bind fun j1 => (if (((4 * v1) + (s.2.2.1 45 j1)) : Int32) ≤ v5 then (some v3) else ((am_ix v5 1000).bind fun j5 => ((if (16384 : Int32) ≤ v2 then (if ¬ ((s.2.2.1 52 j5) : Int32) = (s.1 16) then (some v3) else ((if ¬ ((s.2.2.1 50 j5) : Int32) = ((v2 - 16384) / 256) then (if ¬ ((s.2.2.1 50 j5) : Int32) = ((v2 - 16384) - (v2 - 16384) / 256 * 256) then (some 0) else (if ¬ ((s.2.2.1 51 j5) : Int32) = ((v2 - 16384) / 256) then (some 0) else (some (s.2.2.2 53 j5)))) else (if ¬ ((s.2.2.1 51 j5) : Int32) = ((v2 - 16384) - (v2 - 16384) / 256 * 256) then (if ¬ ((s.2.2.1 50 j5) : Int32) = ((v2 - 16384) - (v2 - 16384) / 256 * 256) then (some 0) else (if ¬ ((s.2.2.1 51 j5) : Int32) = ((v2 - 16384) / 256) then (some 0) else (some (s.2.2.2 53 j5)))) else (some (-(s.2.2.2 53 j5))))).bind fun (u14 : Int64) => (some (v3 + u14)))) else (if ¬ ((s.2.2.1 52 j5) : Int32) = (v2 - v2 / 64 * 64) then (some v3) else ((if ¬ ((s.2.2.1 51 j5) : Int32) = (v2 / 64) then (if ¬ ((s.2.2.1 50 j5) : Int32) = (v2 / 64) then (some 0) else (some (-(s.2.2.2 53 j5)))) else (some (s.2.2.2 53 j5))).bind fun (u25 : Int64) => (some (v3 + u25))))).bind fun (u8 : Int64) => (l_Mo_net_7 fu v1 v2 u8 (v5 + 1) s))))
set_option maxHeartbeats 4000000 in
set_option maxRecDepth 100000 in
theorem L_Mo_net_7 {Q : Option Value → am_H → Prop} (s : mS) (h : am_H) (hM : RM s h) : ∀ (fu : Nat) (v1 : Int32) (v2 : Int32) (v3 : Int64) (v5 : Int32) (q : Int64), l_Mo_net_7 fu v1 v2 v3 v5 s = some q → am_S am_Pr none 0 0 0 0 56 (203, [some (.ref 22), some (.int v1), some (.int v2), some (.long q), none, none, none, none, none, none], [], h, 0, 0) Q → am_S am_Pr none 0 0 0 0 56 (7, [some (.ref 22), some (.int v1), some (.int v2), some (.long v3), none, some (.int v5), none, none, none, none], [], h, 0, 0) Q := by
  intro fu
  induction fu with
  | zero => intro v1 v2 v3 v5 q hd; cases hd
  | succ fu ih =>
    intro v1 v2 v3 v5 q hd kk
    unfold l_Mo_net_7 at hd
    refine am_steps ok_Mo_net 5 (x' := (13, [some (.ref 22), some (.int v1), some (.int v2), some (.long v3), none, some (.int v5), none, none, none, none], [.ref 22, .int (4 * v1), .int v5], h, 0, 0)) rfl (Nat.le_of_ble_eq_true rfl) (Nat.le_of_ble_eq_true rfl) ?_
    refine mr_get ok_Mo_net rfl hM (v := .ref 45) rfl (pc' := 16) rfl (Nat.le_of_ble_eq_true rfl) (Nat.le_of_ble_eq_true rfl) ?_
    refine am_steps ok_Mo_net 1 (x' := (17, [some (.ref 22), some (.int v1), some (.int v2), some (.long v3), none, some (.int v5), none, none, none, none], [.int v1, .ref 45, .int (4 * v1), .int v5], h, 0, 0)) rfl (Nat.le_of_ble_eq_true rfl) (Nat.le_of_ble_eq_true rfl) ?_
    obtain ⟨j1, hx2, hd3⟩ := Option.bind_eq_some_iff.mp hd; clear hd; have hd := hd3; clear hd3
    refine mr_iald ok_Mo_net rfl hM (N := 250) (by decide) hx2 (pc' := 18) rfl (Nat.le_of_ble_eq_true rfl) (Nat.le_of_ble_eq_true rfl) ?_
    refine am_steps ok_Mo_net 2 (x' := (if (((4 * v1) + (s.2.2.1 45 j1)) : Int32) ≤ v5 then 203 else 22, [some (.ref 22), some (.int v1), some (.int v2), some (.long v3), none, some (.int v5), none, none, none, none], [], h, 0, 0)) rfl (Nat.le_of_ble_eq_true rfl) (Nat.le_of_ble_eq_true rfl) ?_
    refine am_if (fun hc4 => ?_) (fun hc4 => ?_)
    · rw [if_pos hc4] at hd
      refine am_drop 5 ?_
      cases hd; exact kk
    · rw [if_neg hc4] at hd
      refine am_steps ok_Mo_net 1 (x' := (23, [some (.ref 22), some (.int v1), some (.int v2), some (.long v3), none, some (.int v5), none, none, none, none], [.ref 22], h, 0, 0)) rfl (Nat.le_of_ble_eq_true rfl) (Nat.le_of_ble_eq_true rfl) ?_
      refine mr_get ok_Mo_net rfl hM (v := .ref 53) rfl (pc' := 26) rfl (Nat.le_of_ble_eq_true rfl) (Nat.le_of_ble_eq_true rfl) ?_
      refine am_steps ok_Mo_net 1 (x' := (28, [some (.ref 22), some (.int v1), some (.int v2), some (.long v3), none, some (.int v5), none, none, none, none], [.int v5, .ref 53], h, 0, 0)) rfl (Nat.le_of_ble_eq_true rfl) (Nat.le_of_ble_eq_true rfl) ?_
      obtain ⟨j5, hx6, hd7⟩ := Option.bind_eq_some_iff.mp hd; clear hd; have hd := hd7; clear hd7
      refine mr_lald ok_Mo_net rfl hM (N := 1000) (by decide) hx6 (pc' := 29) rfl (Nat.le_of_ble_eq_true rfl) (Nat.le_of_ble_eq_true rfl) ?_
      refine am_steps ok_Mo_net 4 (x' := (if (16384 : Int32) ≤ v2 then 98 else 38, [some (.ref 22), some (.int v1), some (.int v2), some (.long v3), none, some (.int v5), some (.long (s.2.2.2 53 j5)), none, none, none], [], h, 0, 0)) rfl (Nat.le_of_ble_eq_true rfl) (Nat.le_of_ble_eq_true rfl) ?_
      obtain ⟨u8, hA10, hB11⟩ := Option.bind_eq_some_iff.mp hd; clear hd
      have K9 : am_S am_Pr none 0 0 0 0 56 (197, [some (.ref 22), some (.int v1), some (.int v2), some (.long u8), none, some (.int v5), none, none, none, none], [], h, 0, 0) Q := by
        have hd := hB11
        refine am_steps ok_Mo_net 2 (x' := (7, [some (.ref 22), some (.int v1), some (.int v2), some (.long u8), none, some (.int (v5 + 1)), none, none, none, none], [], h, 0, 0)) rfl (Nat.le_of_ble_eq_true rfl) (Nat.le_of_ble_eq_true rfl) ?_
        exact ih v1 v2 u8 (v5 + 1) q hd kk
      clear hB11; have hd := hA10; clear hA10
      refine am_if (fun hc12 => ?_) (fun hc12 => ?_)
      · rw [if_pos hc12] at hd
        refine am_steps ok_Mo_net 1 (x' := (99, [some (.ref 22), some (.int v1), some (.int v2), some (.long v3), none, some (.int v5), some (.long (s.2.2.2 53 j5)), none, none, none], [.ref 22], h, 0, 0)) rfl (Nat.le_of_ble_eq_true rfl) (Nat.le_of_ble_eq_true rfl) ?_
        refine mr_get ok_Mo_net rfl hM (v := .ref 52) rfl (pc' := 102) rfl (Nat.le_of_ble_eq_true rfl) (Nat.le_of_ble_eq_true rfl) ?_
        refine am_steps ok_Mo_net 1 (x' := (104, [some (.ref 22), some (.int v1), some (.int v2), some (.long v3), none, some (.int v5), some (.long (s.2.2.2 53 j5)), none, none, none], [.int v5, .ref 52], h, 0, 0)) rfl (Nat.le_of_ble_eq_true rfl) (Nat.le_of_ble_eq_true rfl) ?_
        refine mr_iald ok_Mo_net rfl hM (N := 1000) (by decide) hx6 (pc' := 105) rfl (Nat.le_of_ble_eq_true rfl) (Nat.le_of_ble_eq_true rfl) ?_
        refine am_steps ok_Mo_net 1 (x' := (106, [some (.ref 22), some (.int v1), some (.int v2), some (.long v3), none, some (.int v5), some (.long (s.2.2.2 53 j5)), none, none, none], [.ref 22, .int (s.2.2.1 52 j5)], h, 0, 0)) rfl (Nat.le_of_ble_eq_true rfl) (Nat.le_of_ble_eq_true rfl) ?_
        refine mr_get ok_Mo_net rfl hM (v := .int (s.1 16)) rfl (pc' := 109) rfl (Nat.le_of_ble_eq_true rfl) (Nat.le_of_ble_eq_true rfl) ?_
        refine am_steps ok_Mo_net 1 (x' := (if ¬ ((s.2.2.1 52 j5) : Int32) = (s.1 16) then 197 else 112, [some (.ref 22), some (.int v1), some (.int v2), some (.long v3), none, some (.int v5), some (.long (s.2.2.2 53 j5)), none, none, none], [], h, 0, 0)) rfl (Nat.le_of_ble_eq_true rfl) (Nat.le_of_ble_eq_true rfl) ?_
        refine am_if (fun hc13 => ?_) (fun hc13 => ?_)
        · rw [if_pos hc13] at hd
          refine am_drop 6 ?_
          cases hd; exact K9 
        · rw [if_neg hc13] at hd
          refine am_steps ok_Mo_net 4 (x' := (120, [some (.ref 22), some (.int v1), some (.int v2), some (.long v3), none, some (.int v5), some (.long (s.2.2.2 53 j5)), none, none, none], [.int 256, .int (v2 - 16384)], h, 0, 0)) rfl (Nat.le_of_ble_eq_true rfl) (Nat.le_of_ble_eq_true rfl) ?_
          refine ar_idiv ok_Mo_net rfl (by decide +kernel) (w := ((v2 - 16384) / 256)) rfl (pc' := 121) rfl (Nat.le_of_ble_eq_true rfl) (Nat.le_of_ble_eq_true rfl) ?_
          refine am_steps ok_Mo_net 5 (x' := (131, [some (.ref 22), some (.int v1), some (.int v2), some (.long v3), none, some (.int v5), some (.long (s.2.2.2 53 j5)), none, some (.int ((v2 - 16384) / 256)), none], [.int 256, .int (v2 - 16384)], h, 0, 0)) rfl (Nat.le_of_ble_eq_true rfl) (Nat.le_of_ble_eq_true rfl) ?_
          refine ar_irem ok_Mo_net rfl (by decide +kernel) (w := ((v2 - 16384) - (v2 - 16384) / 256 * 256)) rfl (pc' := 132) rfl (Nat.le_of_ble_eq_true rfl) (Nat.le_of_ble_eq_true rfl) ?_
          refine am_steps ok_Mo_net 3 (x' := (136, [some (.ref 22), some (.int v1), some (.int v2), some (.long v3), none, some (.int v5), some (.long (s.2.2.2 53 j5)), none, some (.int ((v2 - 16384) / 256)), some (.int ((v2 - 16384) - (v2 - 16384) / 256 * 256))], [.ref 22, .long v3], h, 0, 0)) rfl (Nat.le_of_ble_eq_true rfl) (Nat.le_of_ble_eq_true rfl) ?_
          refine mr_get ok_Mo_net rfl hM (v := .ref 50) rfl (pc' := 139) rfl (Nat.le_of_ble_eq_true rfl) (Nat.le_of_ble_eq_true rfl) ?_
          refine am_steps ok_Mo_net 1 (x' := (141, [some (.ref 22), some (.int v1), some (.int v2), some (.long v3), none, some (.int v5), some (.long (s.2.2.2 53 j5)), none, some (.int ((v2 - 16384) / 256)), some (.int ((v2 - 16384) - (v2 - 16384) / 256 * 256))], [.int v5, .ref 50, .long v3], h, 0, 0)) rfl (Nat.le_of_ble_eq_true rfl) (Nat.le_of_ble_eq_true rfl) ?_
          refine mr_iald ok_Mo_net rfl hM (N := 1000) (by decide) hx6 (pc' := 142) rfl (Nat.le_of_ble_eq_true rfl) (Nat.le_of_ble_eq_true rfl) ?_
          refine am_steps ok_Mo_net 2 (x' := (if ¬ ((s.2.2.1 50 j5) : Int32) = ((v2 - 16384) / 256) then 165 else 147, [some (.ref 22), some (.int v1), some (.int v2), some (.long v3), none, some (.int v5), some (.long (s.2.2.2 53 j5)), none, some (.int ((v2 - 16384) / 256)), some (.int ((v2 - 16384) - (v2 - 16384) / 256 * 256))], [.long v3], h, 0, 0)) rfl (Nat.le_of_ble_eq_true rfl) (Nat.le_of_ble_eq_true rfl) ?_
          obtain ⟨u14, hA16, hB17⟩ := Option.bind_eq_some_iff.mp hd; clear hd
          have K15 : am_S am_Pr none 0 0 0 0 56 (195, [some (.ref 22), some (.int v1), some (.int v2), none, none, some (.int v5), none, none, none, none], [.long u14, .long v3], h, 0, 0) Q := by
            have hd := hB17
            refine am_steps ok_Mo_net 2 (x' := (197, [some (.ref 22), some (.int v1), some (.int v2), some (.long (v3 + u14)), none, some (.int v5), none, none, none, none], [], h, 0, 0)) rfl (Nat.le_of_ble_eq_true rfl) (Nat.le_of_ble_eq_true rfl) ?_
            cases hd; exact K9 
          clear hB17; have hd := hA16; clear hA16
          refine am_if (fun hc18 => ?_) (fun hc18 => ?_)
          · rw [if_pos hc18] at hd
            refine am_steps ok_Mo_net 1 (x' := (166, [some (.ref 22), some (.int v1), some (.int v2), some (.long v3), none, some (.int v5), some (.long (s.2.2.2 53 j5)), none, some (.int ((v2 - 16384) / 256)), some (.int ((v2 - 16384) - (v2 - 16384) / 256 * 256))], [.ref 22, .long v3], h, 0, 0)) rfl (Nat.le_of_ble_eq_true rfl) (Nat.le_of_ble_eq_true rfl) ?_
            refine mr_get ok_Mo_net rfl hM (v := .ref 50) rfl (pc' := 169) rfl (Nat.le_of_ble_eq_true rfl) (Nat.le_of_ble_eq_true rfl) ?_
            refine am_steps ok_Mo_net 1 (x' := (171, [some (.ref 22), some (.int v1), some (.int v2), some (.long v3), none, some (.int v5), some (.long (s.2.2.2 53 j5)), none, some (.int ((v2 - 16384) / 256)), some (.int ((v2 - 16384) - (v2 - 16384) / 256 * 256))], [.int v5, .ref 50, .long v3], h, 0, 0)) rfl (Nat.le_of_ble_eq_true rfl) (Nat.le_of_ble_eq_true rfl) ?_
            refine mr_iald ok_Mo_net rfl hM (N := 1000) (by decide) hx6 (pc' := 172) rfl (Nat.le_of_ble_eq_true rfl) (Nat.le_of_ble_eq_true rfl) ?_
            refine am_steps ok_Mo_net 2 (x' := (if ¬ ((s.2.2.1 50 j5) : Int32) = ((v2 - 16384) - (v2 - 16384) / 256 * 256) then 194 else 177, [some (.ref 22), some (.int v1), some (.int v2), some (.long v3), none, some (.int v5), some (.long (s.2.2.2 53 j5)), none, some (.int ((v2 - 16384) / 256)), some (.int ((v2 - 16384) - (v2 - 16384) / 256 * 256))], [.long v3], h, 0, 0)) rfl (Nat.le_of_ble_eq_true rfl) (Nat.le_of_ble_eq_true rfl) ?_
            refine am_if (fun hc19 => ?_) (fun hc19 => ?_)
            · rw [if_pos hc19] at hd
              refine am_steps ok_Mo_net 1 (x' := (195, [some (.ref 22), some (.int v1), some (.int v2), some (.long v3), none, some (.int v5), some (.long (s.2.2.2 53 j5)), none, some (.int ((v2 - 16384) / 256)), some (.int ((v2 - 16384) - (v2 - 16384) / 256 * 256))], [.long 0, .long v3], h, 0, 0)) rfl (Nat.le_of_ble_eq_true rfl) (Nat.le_of_ble_eq_true rfl) ?_
              refine am_drop 3 ?_
              refine am_drop 6 ?_
              refine am_drop 8 ?_
              refine am_drop 9 ?_
              cases hd; exact K15 
            · rw [if_neg hc19] at hd
              refine am_steps ok_Mo_net 1 (x' := (178, [some (.ref 22), some (.int v1), some (.int v2), some (.long v3), none, some (.int v5), some (.long (s.2.2.2 53 j5)), none, some (.int ((v2 - 16384) / 256)), some (.int ((v2 - 16384) - (v2 - 16384) / 256 * 256))], [.ref 22, .long v3], h, 0, 0)) rfl (Nat.le_of_ble_eq_true rfl) (Nat.le_of_ble_eq_true rfl) ?_
              refine mr_get ok_Mo_net rfl hM (v := .ref 51) rfl (pc' := 181) rfl (Nat.le_of_ble_eq_true rfl) (Nat.le_of_ble_eq_true rfl) ?_
              refine am_steps ok_Mo_net 1 (x' := (183, [some (.ref 22), some (.int v1), some (.int v2), some (.long v3), none, some (.int v5), some (.long (s.2.2.2 53 j5)), none, some (.int ((v2 - 16384) / 256)), some (.int ((v2 - 16384) - (v2 - 16384) / 256 * 256))], [.int v5, .ref 51, .long v3], h, 0, 0)) rfl (Nat.le_of_ble_eq_true rfl) (Nat.le_of_ble_eq_true rfl) ?_
              refine mr_iald ok_Mo_net rfl hM (N := 1000) (by decide) hx6 (pc' := 184) rfl (Nat.le_of_ble_eq_true rfl) (Nat.le_of_ble_eq_true rfl) ?_
              refine am_steps ok_Mo_net 2 (x' := (if ¬ ((s.2.2.1 51 j5) : Int32) = ((v2 - 16384) / 256) then 194 else 189, [some (.ref 22), some (.int v1), some (.int v2), some (.long v3), none, some (.int v5), some (.long (s.2.2.2 53 j5)), none, some (.int ((v2 - 16384) / 256)), some (.int ((v2 - 16384) - (v2 - 16384) / 256 * 256))], [.long v3], h, 0, 0)) rfl (Nat.le_of_ble_eq_true rfl) (Nat.le_of_ble_eq_true rfl) ?_
              refine am_if (fun hc20 => ?_) (fun hc20 => ?_)
              · rw [if_pos hc20] at hd
                refine am_steps ok_Mo_net 1 (x' := (195, [some (.ref 22), some (.int v1), some (.int v2), some (.long v3), none, some (.int v5), some (.long (s.2.2.2 53 j5)), none, some (.int ((v2 - 16384) / 256)), some (.int ((v2 - 16384) - (v2 - 16384) / 256 * 256))], [.long 0, .long v3], h, 0, 0)) rfl (Nat.le_of_ble_eq_true rfl) (Nat.le_of_ble_eq_true rfl) ?_
                refine am_drop 3 ?_
                refine am_drop 6 ?_
                refine am_drop 8 ?_
                refine am_drop 9 ?_
                cases hd; exact K15 
              · rw [if_neg hc20] at hd
                refine am_steps ok_Mo_net 2 (x' := (195, [some (.ref 22), some (.int v1), some (.int v2), some (.long v3), none, some (.int v5), some (.long (s.2.2.2 53 j5)), none, some (.int ((v2 - 16384) / 256)), some (.int ((v2 - 16384) - (v2 - 16384) / 256 * 256))], [.long (s.2.2.2 53 j5), .long v3], h, 0, 0)) rfl (Nat.le_of_ble_eq_true rfl) (Nat.le_of_ble_eq_true rfl) ?_
                refine am_drop 3 ?_
                refine am_drop 6 ?_
                refine am_drop 8 ?_
                refine am_drop 9 ?_
                cases hd; exact K15 
          · rw [if_neg hc18] at hd
            refine am_steps ok_Mo_net 1 (x' := (148, [some (.ref 22), some (.int v1), some (.int v2), some (.long v3), none, some (.int v5), some (.long (s.2.2.2 53 j5)), none, some (.int ((v2 - 16384) / 256)), some (.int ((v2 - 16384) - (v2 - 16384) / 256 * 256))], [.ref 22, .long v3], h, 0, 0)) rfl (Nat.le_of_ble_eq_true rfl) (Nat.le_of_ble_eq_true rfl) ?_
            refine mr_get ok_Mo_net rfl hM (v := .ref 51) rfl (pc' := 151) rfl (Nat.le_of_ble_eq_true rfl) (Nat.le_of_ble_eq_true rfl) ?_
            refine am_steps ok_Mo_net 1 (x' := (153, [some (.ref 22), some (.int v1), some (.int v2), some (.long v3), none, some (.int v5), some (.long (s.2.2.2 53 j5)), none, some (.int ((v2 - 16384) / 256)), some (.int ((v2 - 16384) - (v2 - 16384) / 256 * 256))], [.int v5, .ref 51, .long v3], h, 0, 0)) rfl (Nat.le_of_ble_eq_true rfl) (Nat.le_of_ble_eq_true rfl) ?_
            refine mr_iald ok_Mo_net rfl hM (N := 1000) (by decide) hx6 (pc' := 154) rfl (Nat.le_of_ble_eq_true rfl) (Nat.le_of_ble_eq_true rfl) ?_
            refine am_steps ok_Mo_net 2 (x' := (if ¬ ((s.2.2.1 51 j5) : Int32) = ((v2 - 16384) - (v2 - 16384) / 256 * 256) then 165 else 159, [some (.ref 22), some (.int v1), some (.int v2), some (.long v3), none, some (.int v5), some (.long (s.2.2.2 53 j5)), none, some (.int ((v2 - 16384) / 256)), some (.int ((v2 - 16384) - (v2 - 16384) / 256 * 256))], [.long v3], h, 0, 0)) rfl (Nat.le_of_ble_eq_true rfl) (Nat.le_of_ble_eq_true rfl) ?_
            refine am_if (fun hc21 => ?_) (fun hc21 => ?_)
            · rw [if_pos hc21] at hd
              refine am_steps ok_Mo_net 1 (x' := (166, [some (.ref 22), some (.int v1), some (.int v2), some (.long v3), none, some (.int v5), some (.long (s.2.2.2 53 j5)), none, some (.int ((v2 - 16384) / 256)), some (.int ((v2 - 16384) - (v2 - 16384) / 256 * 256))], [.ref 22, .long v3], h, 0, 0)) rfl (Nat.le_of_ble_eq_true rfl) (Nat.le_of_ble_eq_true rfl) ?_
              refine mr_get ok_Mo_net rfl hM (v := .ref 50) rfl (pc' := 169) rfl (Nat.le_of_ble_eq_true rfl) (Nat.le_of_ble_eq_true rfl) ?_
              refine am_steps ok_Mo_net 1 (x' := (171, [some (.ref 22), some (.int v1), some (.int v2), some (.long v3), none, some (.int v5), some (.long (s.2.2.2 53 j5)), none, some (.int ((v2 - 16384) / 256)), some (.int ((v2 - 16384) - (v2 - 16384) / 256 * 256))], [.int v5, .ref 50, .long v3], h, 0, 0)) rfl (Nat.le_of_ble_eq_true rfl) (Nat.le_of_ble_eq_true rfl) ?_
              refine mr_iald ok_Mo_net rfl hM (N := 1000) (by decide) hx6 (pc' := 172) rfl (Nat.le_of_ble_eq_true rfl) (Nat.le_of_ble_eq_true rfl) ?_
              refine am_steps ok_Mo_net 2 (x' := (if ¬ ((s.2.2.1 50 j5) : Int32) = ((v2 - 16384) - (v2 - 16384) / 256 * 256) then 194 else 177, [some (.ref 22), some (.int v1), some (.int v2), some (.long v3), none, some (.int v5), some (.long (s.2.2.2 53 j5)), none, some (.int ((v2 - 16384) / 256)), some (.int ((v2 - 16384) - (v2 - 16384) / 256 * 256))], [.long v3], h, 0, 0)) rfl (Nat.le_of_ble_eq_true rfl) (Nat.le_of_ble_eq_true rfl) ?_
              refine am_if (fun hc22 => ?_) (fun hc22 => ?_)
              · rw [if_pos hc22] at hd
                refine am_steps ok_Mo_net 1 (x' := (195, [some (.ref 22), some (.int v1), some (.int v2), some (.long v3), none, some (.int v5), some (.long (s.2.2.2 53 j5)), none, some (.int ((v2 - 16384) / 256)), some (.int ((v2 - 16384) - (v2 - 16384) / 256 * 256))], [.long 0, .long v3], h, 0, 0)) rfl (Nat.le_of_ble_eq_true rfl) (Nat.le_of_ble_eq_true rfl) ?_
                refine am_drop 3 ?_
                refine am_drop 6 ?_
                refine am_drop 8 ?_
                refine am_drop 9 ?_
                cases hd; exact K15 
              · rw [if_neg hc22] at hd
                refine am_steps ok_Mo_net 1 (x' := (178, [some (.ref 22), some (.int v1), some (.int v2), some (.long v3), none, some (.int v5), some (.long (s.2.2.2 53 j5)), none, some (.int ((v2 - 16384) / 256)), some (.int ((v2 - 16384) - (v2 - 16384) / 256 * 256))], [.ref 22, .long v3], h, 0, 0)) rfl (Nat.le_of_ble_eq_true rfl) (Nat.le_of_ble_eq_true rfl) ?_
                refine mr_get ok_Mo_net rfl hM (v := .ref 51) rfl (pc' := 181) rfl (Nat.le_of_ble_eq_true rfl) (Nat.le_of_ble_eq_true rfl) ?_
                refine am_steps ok_Mo_net 1 (x' := (183, [some (.ref 22), some (.int v1), some (.int v2), some (.long v3), none, some (.int v5), some (.long (s.2.2.2 53 j5)), none, some (.int ((v2 - 16384) / 256)), some (.int ((v2 - 16384) - (v2 - 16384) / 256 * 256))], [.int v5, .ref 51, .long v3], h, 0, 0)) rfl (Nat.le_of_ble_eq_true rfl) (Nat.le_of_ble_eq_true rfl) ?_
                refine mr_iald ok_Mo_net rfl hM (N := 1000) (by decide) hx6 (pc' := 184) rfl (Nat.le_of_ble_eq_true rfl) (Nat.le_of_ble_eq_true rfl) ?_
                refine am_steps ok_Mo_net 2 (x' := (if ¬ ((s.2.2.1 51 j5) : Int32) = ((v2 - 16384) / 256) then 194 else 189, [some (.ref 22), some (.int v1), some (.int v2), some (.long v3), none, some (.int v5), some (.long (s.2.2.2 53 j5)), none, some (.int ((v2 - 16384) / 256)), some (.int ((v2 - 16384) - (v2 - 16384) / 256 * 256))], [.long v3], h, 0, 0)) rfl (Nat.le_of_ble_eq_true rfl) (Nat.le_of_ble_eq_true rfl) ?_
                refine am_if (fun hc23 => ?_) (fun hc23 => ?_)
                · rw [if_pos hc23] at hd
                  refine am_steps ok_Mo_net 1 (x' := (195, [some (.ref 22), some (.int v1), some (.int v2), some (.long v3), none, some (.int v5), some (.long (s.2.2.2 53 j5)), none, some (.int ((v2 - 16384) / 256)), some (.int ((v2 - 16384) - (v2 - 16384) / 256 * 256))], [.long 0, .long v3], h, 0, 0)) rfl (Nat.le_of_ble_eq_true rfl) (Nat.le_of_ble_eq_true rfl) ?_
                  refine am_drop 3 ?_
                  refine am_drop 6 ?_
                  refine am_drop 8 ?_
                  refine am_drop 9 ?_
                  cases hd; exact K15 
                · rw [if_neg hc23] at hd
                  refine am_steps ok_Mo_net 2 (x' := (195, [some (.ref 22), some (.int v1), some (.int v2), some (.long v3), none, some (.int v5), some (.long (s.2.2.2 53 j5)), none, some (.int ((v2 - 16384) / 256)), some (.int ((v2 - 16384) - (v2 - 16384) / 256 * 256))], [.long (s.2.2.2 53 j5), .long v3], h, 0, 0)) rfl (Nat.le_of_ble_eq_true rfl) (Nat.le_of_ble_eq_true rfl) ?_
                  refine am_drop 3 ?_
                  refine am_drop 6 ?_
                  refine am_drop 8 ?_
                  refine am_drop 9 ?_
                  cases hd; exact K15 
            · rw [if_neg hc21] at hd
              refine am_steps ok_Mo_net 3 (x' := (195, [some (.ref 22), some (.int v1), some (.int v2), some (.long v3), none, some (.int v5), some (.long (s.2.2.2 53 j5)), none, some (.int ((v2 - 16384) / 256)), some (.int ((v2 - 16384) - (v2 - 16384) / 256 * 256))], [.long (-(s.2.2.2 53 j5)), .long v3], h, 0, 0)) rfl (Nat.le_of_ble_eq_true rfl) (Nat.le_of_ble_eq_true rfl) ?_
              refine am_drop 3 ?_
              refine am_drop 6 ?_
              refine am_drop 8 ?_
              refine am_drop 9 ?_
              cases hd; exact K15 
      · rw [if_neg hc12] at hd
        refine am_steps ok_Mo_net 1 (x' := (39, [some (.ref 22), some (.int v1), some (.int v2), some (.long v3), none, some (.int v5), some (.long (s.2.2.2 53 j5)), none, none, none], [.ref 22], h, 0, 0)) rfl (Nat.le_of_ble_eq_true rfl) (Nat.le_of_ble_eq_true rfl) ?_
        refine mr_get ok_Mo_net rfl hM (v := .ref 52) rfl (pc' := 42) rfl (Nat.le_of_ble_eq_true rfl) (Nat.le_of_ble_eq_true rfl) ?_
        refine am_steps ok_Mo_net 1 (x' := (44, [some (.ref 22), some (.int v1), some (.int v2), some (.long v3), none, some (.int v5), some (.long (s.2.2.2 53 j5)), none, none, none], [.int v5, .ref 52], h, 0, 0)) rfl (Nat.le_of_ble_eq_true rfl) (Nat.le_of_ble_eq_true rfl) ?_
        refine mr_iald ok_Mo_net rfl hM (N := 1000) (by decide) hx6 (pc' := 45) rfl (Nat.le_of_ble_eq_true rfl) (Nat.le_of_ble_eq_true rfl) ?_
        refine am_steps ok_Mo_net 2 (x' := (48, [some (.ref 22), some (.int v1), some (.int v2), some (.long v3), none, some (.int v5), some (.long (s.2.2.2 53 j5)), none, none, none], [.int 64, .int v2, .int (s.2.2.1 52 j5)], h, 0, 0)) rfl (Nat.le_of_ble_eq_true rfl) (Nat.le_of_ble_eq_true rfl) ?_
        refine ar_irem ok_Mo_net rfl (by decide +kernel) (w := (v2 - v2 / 64 * 64)) rfl (pc' := 49) rfl (Nat.le_of_ble_eq_true rfl) (Nat.le_of_ble_eq_true rfl) ?_
        refine am_steps ok_Mo_net 1 (x' := (if ¬ ((s.2.2.1 52 j5) : Int32) = (v2 - v2 / 64 * 64) then 197 else 52, [some (.ref 22), some (.int v1), some (.int v2), some (.long v3), none, some (.int v5), some (.long (s.2.2.2 53 j5)), none, none, none], [], h, 0, 0)) rfl (Nat.le_of_ble_eq_true rfl) (Nat.le_of_ble_eq_true rfl) ?_
        refine am_if (fun hc24 => ?_) (fun hc24 => ?_)
        · rw [if_pos hc24] at hd
          refine am_drop 6 ?_
          cases hd; exact K9 
        · rw [if_neg hc24] at hd
          refine am_steps ok_Mo_net 2 (x' := (54, [some (.ref 22), some (.int v1), some (.int v2), some (.long v3), none, some (.int v5), some (.long (s.2.2.2 53 j5)), none, none, none], [.ref 22, .long v3], h, 0, 0)) rfl (Nat.le_of_ble_eq_true rfl) (Nat.le_of_ble_eq_true rfl) ?_
          refine mr_get ok_Mo_net rfl hM (v := .ref 51) rfl (pc' := 57) rfl (Nat.le_of_ble_eq_true rfl) (Nat.le_of_ble_eq_true rfl) ?_
          refine am_steps ok_Mo_net 1 (x' := (59, [some (.ref 22), some (.int v1), some (.int v2), some (.long v3), none, some (.int v5), some (.long (s.2.2.2 53 j5)), none, none, none], [.int v5, .ref 51, .long v3], h, 0, 0)) rfl (Nat.le_of_ble_eq_true rfl) (Nat.le_of_ble_eq_true rfl) ?_
          refine mr_iald ok_Mo_net rfl hM (N := 1000) (by decide) hx6 (pc' := 60) rfl (Nat.le_of_ble_eq_true rfl) (Nat.le_of_ble_eq_true rfl) ?_
          refine am_steps ok_Mo_net 2 (x' := (63, [some (.ref 22), some (.int v1), some (.int v2), some (.long v3), none, some (.int v5), some (.long (s.2.2.2 53 j5)), none, none, none], [.int 64, .int v2, .int (s.2.2.1 51 j5), .long v3], h, 0, 0)) rfl (Nat.le_of_ble_eq_true rfl) (Nat.le_of_ble_eq_true rfl) ?_
          refine ar_idiv ok_Mo_net rfl (by decide +kernel) (w := (v2 / 64)) rfl (pc' := 64) rfl (Nat.le_of_ble_eq_true rfl) (Nat.le_of_ble_eq_true rfl) ?_
          refine am_steps ok_Mo_net 1 (x' := (if ¬ ((s.2.2.1 51 j5) : Int32) = (v2 / 64) then 72 else 67, [some (.ref 22), some (.int v1), some (.int v2), some (.long v3), none, some (.int v5), some (.long (s.2.2.2 53 j5)), none, none, none], [.long v3], h, 0, 0)) rfl (Nat.le_of_ble_eq_true rfl) (Nat.le_of_ble_eq_true rfl) ?_
          obtain ⟨u25, hA27, hB28⟩ := Option.bind_eq_some_iff.mp hd; clear hd
          have K26 : am_S am_Pr none 0 0 0 0 56 (93, [some (.ref 22), some (.int v1), some (.int v2), none, none, some (.int v5), none, none, none, none], [.long u25, .long v3], h, 0, 0) Q := by
            have hd := hB28
            refine am_steps ok_Mo_net 3 (x' := (197, [some (.ref 22), some (.int v1), some (.int v2), some (.long (v3 + u25)), none, some (.int v5), none, none, none, none], [], h, 0, 0)) rfl (Nat.le_of_ble_eq_true rfl) (Nat.le_of_ble_eq_true rfl) ?_
            cases hd; exact K9 
          clear hB28; have hd := hA27; clear hA27
          refine am_if (fun hc29 => ?_) (fun hc29 => ?_)
          · rw [if_pos hc29] at hd
            refine am_steps ok_Mo_net 1 (x' := (73, [some (.ref 22), some (.int v1), some (.int v2), some (.long v3), none, some (.int v5), some (.long (s.2.2.2 53 j5)), none, none, none], [.ref 22, .long v3], h, 0, 0)) rfl (Nat.le_of_ble_eq_true rfl) (Nat.le_of_ble_eq_true rfl) ?_
            refine mr_get ok_Mo_net rfl hM (v := .ref 50) rfl (pc' := 76) rfl (Nat.le_of_ble_eq_true rfl) (Nat.le_of_ble_eq_true rfl) ?_
            refine am_steps ok_Mo_net 1 (x' := (78, [some (.ref 22), some (.int v1), some (.int v2), some (.long v3), none, some (.int v5), some (.long (s.2.2.2 53 j5)), none, none, none], [.int v5, .ref 50, .long v3], h, 0, 0)) rfl (Nat.le_of_ble_eq_true rfl) (Nat.le_of_ble_eq_true rfl) ?_
            refine mr_iald ok_Mo_net rfl hM (N := 1000) (by decide) hx6 (pc' := 79) rfl (Nat.le_of_ble_eq_true rfl) (Nat.le_of_ble_eq_true rfl) ?_
            refine am_steps ok_Mo_net 2 (x' := (82, [some (.ref 22), some (.int v1), some (.int v2), some (.long v3), none, some (.int v5), some (.long (s.2.2.2 53 j5)), none, none, none], [.int 64, .int v2, .int (s.2.2.1 50 j5), .long v3], h, 0, 0)) rfl (Nat.le_of_ble_eq_true rfl) (Nat.le_of_ble_eq_true rfl) ?_
            refine ar_idiv ok_Mo_net rfl (by decide +kernel) (w := (v2 / 64)) rfl (pc' := 83) rfl (Nat.le_of_ble_eq_true rfl) (Nat.le_of_ble_eq_true rfl) ?_
            refine am_steps ok_Mo_net 1 (x' := (if ¬ ((s.2.2.1 50 j5) : Int32) = (v2 / 64) then 92 else 86, [some (.ref 22), some (.int v1), some (.int v2), some (.long v3), none, some (.int v5), some (.long (s.2.2.2 53 j5)), none, none, none], [.long v3], h, 0, 0)) rfl (Nat.le_of_ble_eq_true rfl) (Nat.le_of_ble_eq_true rfl) ?_
            refine am_if (fun hc30 => ?_) (fun hc30 => ?_)
            · rw [if_pos hc30] at hd
              refine am_steps ok_Mo_net 1 (x' := (93, [some (.ref 22), some (.int v1), some (.int v2), some (.long v3), none, some (.int v5), some (.long (s.2.2.2 53 j5)), none, none, none], [.long 0, .long v3], h, 0, 0)) rfl (Nat.le_of_ble_eq_true rfl) (Nat.le_of_ble_eq_true rfl) ?_
              refine am_drop 3 ?_
              refine am_drop 6 ?_
              cases hd; exact K26 
            · rw [if_neg hc30] at hd
              refine am_steps ok_Mo_net 3 (x' := (93, [some (.ref 22), some (.int v1), some (.int v2), some (.long v3), none, some (.int v5), some (.long (s.2.2.2 53 j5)), none, none, none], [.long (-(s.2.2.2 53 j5)), .long v3], h, 0, 0)) rfl (Nat.le_of_ble_eq_true rfl) (Nat.le_of_ble_eq_true rfl) ?_
              refine am_drop 3 ?_
              refine am_drop 6 ?_
              cases hd; exact K26 
          · rw [if_neg hc29] at hd
            refine am_steps ok_Mo_net 2 (x' := (93, [some (.ref 22), some (.int v1), some (.int v2), some (.long v3), none, some (.int v5), some (.long (s.2.2.2 53 j5)), none, none, none], [.long (s.2.2.2 53 j5), .long v3], h, 0, 0)) rfl (Nat.le_of_ble_eq_true rfl) (Nat.le_of_ble_eq_true rfl) ?_
            refine am_drop 3 ?_
            refine am_drop 6 ?_
            cases hd; exact K26 
def d_Mo_net (a : Int32) (b : Int32) (s : mS) : Option (Int64) := (l_Mo_net_7 100000 a b 0 (4 * a) s).bind fun q31 => (some q31)
set_option maxHeartbeats 4000000 in
set_option maxRecDepth 100000 in
theorem k_Mo_net (a : Int32) (b : Int32) (s : mS) (h0 : am_H) (hM : RM s h0) (q : Int64) (hd : d_Mo_net a b s = some q) : am_Me am_Pr none 0 0 0 0 56 [.ref 22, .int a, .int b] h0 (am_is (some (.long q)) h0) := by
  refine am_enter (d := hd_Mo_net) rfl (by decide +kernel) (Nat.le_of_ble_eq_true rfl) ?_
  show am_S _ _ _ _ _ _ _ (0, [some (.ref 22), some (.int a), some (.int b), none, none, none, none, none, none, none], [], h0, 0, 0) _
  unfold d_Mo_net at hd
  refine am_steps ok_Mo_net 6 (x' := (7, [some (.ref 22), some (.int a), some (.int b), some (.long 0), none, some (.int (4 * a)), none, none, none, none], [], h0, 0, 0)) rfl (Nat.le_of_ble_eq_true rfl) (Nat.le_of_ble_eq_true rfl) ?_
  obtain ⟨q31, hq32, hd33⟩ := Option.bind_eq_some_iff.mp hd; clear hd; have hd := hd33; clear hd33
  refine L_Mo_net_7 s h0 hM 100000 a b 0 (4 * a) q31 hq32 ?_
  show am_S _ _ _ _ _ _ _ (203, [some (.ref 22), some (.int a), some (.int b), some (.long q31), none, none, none, none, none, none], [], h0, 0, 0) _
  refine am_steps ok_Mo_net 1 (x' := (204, [some (.ref 22), some (.int a), some (.int b), some (.long q31), none, none, none, none, none, none], [.long q31], h0, 0, 0)) rfl (Nat.le_of_ble_eq_true rfl) (Nat.le_of_ble_eq_true rfl) ?_
  cases hd; exact am_ret ok_Mo_net rfl (Nat.le_of_ble_eq_true rfl) (Nat.le_of_ble_eq_true rfl) ⟨rfl, rfl⟩
def l_Mo_noted_2 : Nat → Int32 → Int32 → Int32 → mS → Option (Int32 × mS)
  | 0, _, _, _, _ => none
  | fu + 1, v1, v2, v3, s => if (v1 : Int32) ≤ v3 then ((am_ix v1 16).bind fun j2 => (some ((v1 + 1), (mA s 57 j2 v2)))) else ((am_ix v3 16).bind fun j9 => (if ¬ ((s.2.2.1 57 j9) : Int32) = v2 then (l_Mo_noted_2 fu v1 v2 (v3 + 1) s) else (some (v1, s))))
set_option maxHeartbeats 4000000 in
set_option maxRecDepth 100000 in
theorem L_Mo_noted_2 (h0 : am_H) : ∀ (fu : Nat) (v1 : Int32) (v2 : Int32) (v3 : Int32) (s : mS) (h : am_H), RM s h → mF h0 h → ∀ q : Int32 × mS, l_Mo_noted_2 fu v1 v2 v3 s = some q → am_S am_Pr none 0 0 0 0 57 (2, [some (.ref 22), some (.int v1), some (.int v2), some (.int v3)], [], h, 0, 0) (mQr (.int q.1) q.2 h0) := by
  intro fu
  induction fu with
  | zero => intro v1 v2 v3 s h hM f q hd; cases hd
  | succ fu ih =>
    intro v1 v2 v3 s h hM f q hd
    unfold l_Mo_noted_2 at hd
    refine am_steps ok_Mo_noted 3 (x' := (if (v1 : Int32) ≤ v3 then 25 else 7, [some (.ref 22), some (.int v1), some (.int v2), some (.int v3)], [], h, 0, 0)) rfl (Nat.le_of_ble_eq_true rfl) (Nat.le_of_ble_eq_true rfl) ?_
    refine am_if (fun hc1 => ?_) (fun hc1 => ?_)
    · rw [if_pos hc1] at hd
      refine am_steps ok_Mo_noted 1 (x' := (26, [some (.ref 22), some (.int v1), some (.int v2), some (.int v3)], [.ref 22], h, 0, 0)) rfl (Nat.le_of_ble_eq_true rfl) (Nat.le_of_ble_eq_true rfl) ?_
      refine mr_get ok_Mo_noted rfl hM (v := .ref 57) rfl (pc' := 29) rfl (Nat.le_of_ble_eq_true rfl) (Nat.le_of_ble_eq_true rfl) ?_
      refine am_steps ok_Mo_noted 2 (x' := (31, [some (.ref 22), some (.int v1), some (.int v2), some (.int v3)], [.int v2, .int v1, .ref 57], h, 0, 0)) rfl (Nat.le_of_ble_eq_true rfl) (Nat.le_of_ble_eq_true rfl) ?_
      obtain ⟨j2, hx3, hd4⟩ := Option.bind_eq_some_iff.mp hd; clear hd; have hd := hd4; clear hd4
      refine mr_iast ok_Mo_noted rfl hM (N := 16) (by decide) hx3 (pc' := 32) rfl (Nat.le_of_ble_eq_true rfl) (Nat.le_of_ble_eq_true rfl) (fun h5 hM6 g8 => ?_)
      have f7 := mF.tr f g8
      refine am_steps ok_Mo_noted 3 (x' := (35, [some (.ref 22), some (.int v1), some (.int v2), some (.int v3)], [.int (v1 + 1)], h5, 0, 0)) rfl (Nat.le_of_ble_eq_true rfl) (Nat.le_of_ble_eq_true rfl) ?_
      cases hd; exact am_ret ok_Mo_noted rfl (Nat.le_of_ble_eq_true rfl) (Nat.le_of_ble_eq_true rfl) ⟨rfl, hM6, f7⟩
    · rw [if_neg hc1] at hd
      refine am_steps ok_Mo_noted 1 (x' := (8, [some (.ref 22), some (.int v1), some (.int v2), some (.int v3)], [.ref 22], h, 0, 0)) rfl (Nat.le_of_ble_eq_true rfl) (Nat.le_of_ble_eq_true rfl) ?_
      refine mr_get ok_Mo_noted rfl hM (v := .ref 57) rfl (pc' := 11) rfl (Nat.le_of_ble_eq_true rfl) (Nat.le_of_ble_eq_true rfl) ?_
      refine am_steps ok_Mo_noted 1 (x' := (12, [some (.ref 22), some (.int v1), some (.int v2), some (.int v3)], [.int v3, .ref 57], h, 0, 0)) rfl (Nat.le_of_ble_eq_true rfl) (Nat.le_of_ble_eq_true rfl) ?_
      obtain ⟨j9, hx10, hd11⟩ := Option.bind_eq_some_iff.mp hd; clear hd; have hd := hd11; clear hd11
      refine mr_iald ok_Mo_noted rfl hM (N := 16) (by decide) hx10 (pc' := 13) rfl (Nat.le_of_ble_eq_true rfl) (Nat.le_of_ble_eq_true rfl) ?_
      refine am_steps ok_Mo_noted 2 (x' := (if ¬ ((s.2.2.1 57 j9) : Int32) = v2 then 19 else 17, [some (.ref 22), some (.int v1), some (.int v2), some (.int v3)], [], h, 0, 0)) rfl (Nat.le_of_ble_eq_true rfl) (Nat.le_of_ble_eq_true rfl) ?_
      refine am_if (fun hc12 => ?_) (fun hc12 => ?_)
      · rw [if_pos hc12] at hd
        refine am_steps ok_Mo_noted 2 (x' := (2, [some (.ref 22), some (.int v1), some (.int v2), some (.int (v3 + 1))], [], h, 0, 0)) rfl (Nat.le_of_ble_eq_true rfl) (Nat.le_of_ble_eq_true rfl) ?_
        exact ih v1 v2 (v3 + 1) s h hM f q hd
      · rw [if_neg hc12] at hd
        refine am_steps ok_Mo_noted 1 (x' := (18, [some (.ref 22), some (.int v1), some (.int v2), some (.int v3)], [.int v1], h, 0, 0)) rfl (Nat.le_of_ble_eq_true rfl) (Nat.le_of_ble_eq_true rfl) ?_
        cases hd; exact am_ret ok_Mo_noted rfl (Nat.le_of_ble_eq_true rfl) (Nat.le_of_ble_eq_true rfl) ⟨rfl, hM, f⟩
def d_Mo_noted (a : Int32) (b : Int32) (s : mS) : Option (Int32 × mS) := l_Mo_noted_2 100000 a b 0 s
set_option maxHeartbeats 4000000 in
set_option maxRecDepth 100000 in
theorem k_Mo_noted (a : Int32) (b : Int32) (s : mS) (h0 : am_H) (hM : RM s h0) (q : Int32 × mS) (hd : d_Mo_noted a b s = some q) : am_Me am_Pr none 0 0 0 0 57 [.ref 22, .int a, .int b] h0 (mQr (.int q.1) q.2 h0) := by
  refine am_enter (d := hd_Mo_noted) rfl (by decide +kernel) (Nat.le_of_ble_eq_true rfl) ?_
  show am_S _ _ _ _ _ _ _ (0, [some (.ref 22), some (.int a), some (.int b), none], [], h0, 0, 0) _
  unfold d_Mo_noted at hd
  refine am_steps ok_Mo_noted 2 (x' := (2, [some (.ref 22), some (.int a), some (.int b), some (.int 0)], [], h0, 0, 0)) rfl (Nat.le_of_ble_eq_true rfl) (Nat.le_of_ble_eq_true rfl) ?_
  exact L_Mo_noted_2 h0 100000 a b 0 s h0 hM (mF.rf) q hd
def l_Mo_places_6 : Nat → Int32 → Int32 → Int32 → mS → Option (Int32 × mS)
  | 0, _, _, _, _ => none
  | fu + 1, v1, v2, v3, s => (am_ix v1 250).bind fun j1 => (if (((4 * v1) + (s.2.2.1 45 j1)) : Int32) ≤ v3 then (some (v2, s)) else ((am_ix v3 1000).bind fun j5 => ((d_Mo_noted v2 ((64 * (s.2.2.1 50 j5)) + (s.2.2.1 52 j5)) s).bind fun q8 => ((d_Mo_noted q8.1 ((64 * (q8.2.2.2.1 51 j5)) + (q8.2.2.2.1 52 j5)) q8.2).bind fun q17 => ((if ¬ ((q17.2.2.2.1 52 j5) : Int32) = (q17.2.1 16) then (some (q17.1, q17.2)) else ((am_ix ((256 * (q17.2.2.2.1 50 j5)) + (q17.2.2.2.1 51 j5)) 65536).bind fun j55 => (if ((lg_cmp (q17.2.2.2.2 38 j55) 0) : Int32) < 0 then (some (q17.1, q17.2)) else ((d_Mo_noted q17.1 (16384 + ((256 * (q17.2.2.2.1 50 j5)) + (q17.2.2.2.1 51 j5))) q17.2).bind fun q59 => (some (q59.1, q59.2)))))).bind fun (u26 : Int32 × mS) => ((if ¬ ((u26.2.2.2.1 52 j5) : Int32) = (u26.2.1 16) then (some (u26.1, u26.2)) else ((am_ix ((256 * (q17.2.2.2.1 51 j5)) + (q17.2.2.2.1 50 j5)) 65536).bind fun j41 => (if ((lg_cmp (u26.2.2.2.2 38 j41) 0) : Int32) < 0 then (some (u26.1, u26.2)) else ((d_Mo_noted u26.1 (16384 + ((256 * (q17.2.2.2.1 51 j5)) + (q17.2.2.2.1 50 j5))) u26.2).bind fun q45 => (some (q45.1, q45.2)))))).bind fun (u33 : Int32 × mS) => (l_Mo_places_6 fu v1 u33.1 (v3 + 1) u33.2)))))))
set_option maxHeartbeats 4000000 in
set_option maxRecDepth 100000 in
theorem L_Mo_places_6 {Q : Option Value → am_H → Prop} (h0 : am_H) : ∀ (fu : Nat) (v1 : Int32) (v2 : Int32) (v3 : Int32) (s : mS) (h : am_H), RM s h → mF h0 h → ∀ q : Int32 × mS, l_Mo_places_6 fu v1 v2 v3 s = some q → (∀ h' : am_H, RM q.2 h' → mF h0 h' → am_S am_Pr none 1 23 0 0 58 (182, [some (.ref 22), some (.int v1), some (.int q.1), none, none, none], [], h', 0, 0) Q) → am_S am_Pr none 1 23 0 0 58 (6, [some (.ref 22), some (.int v1), some (.int v2), some (.int v3), none, none], [], h, 0, 0) Q := by
  intro fu
  induction fu with
  | zero => intro v1 v2 v3 s h hM f q hd; cases hd
  | succ fu ih =>
    intro v1 v2 v3 s h hM f q hd kk
    unfold l_Mo_places_6 at hd
    refine am_steps ok_Mo_places 5 (x' := (11, [some (.ref 22), some (.int v1), some (.int v2), some (.int v3), none, none], [.ref 22, .int (4 * v1), .int v3], h, 0, 0)) rfl (Nat.le_of_ble_eq_true rfl) (Nat.le_of_ble_eq_true rfl) ?_
    refine mr_get ok_Mo_places rfl hM (v := .ref 45) rfl (pc' := 14) rfl (Nat.le_of_ble_eq_true rfl) (Nat.le_of_ble_eq_true rfl) ?_
    refine am_steps ok_Mo_places 1 (x' := (15, [some (.ref 22), some (.int v1), some (.int v2), some (.int v3), none, none], [.int v1, .ref 45, .int (4 * v1), .int v3], h, 0, 0)) rfl (Nat.le_of_ble_eq_true rfl) (Nat.le_of_ble_eq_true rfl) ?_
    obtain ⟨j1, hx2, hd3⟩ := Option.bind_eq_some_iff.mp hd; clear hd; have hd := hd3; clear hd3
    refine mr_iald ok_Mo_places rfl hM (N := 250) (by decide) hx2 (pc' := 16) rfl (Nat.le_of_ble_eq_true rfl) (Nat.le_of_ble_eq_true rfl) ?_
    refine am_steps ok_Mo_places 2 (x' := (if (((4 * v1) + (s.2.2.1 45 j1)) : Int32) ≤ v3 then 182 else 20, [some (.ref 22), some (.int v1), some (.int v2), some (.int v3), none, none], [], h, 0, 0)) rfl (Nat.le_of_ble_eq_true rfl) (Nat.le_of_ble_eq_true rfl) ?_
    refine am_if (fun hc4 => ?_) (fun hc4 => ?_)
    · rw [if_pos hc4] at hd
      refine am_drop 3 ?_
      cases hd; exact kk h hM f
    · rw [if_neg hc4] at hd
      refine am_steps ok_Mo_places 4 (x' := (25, [some (.ref 22), some (.int v1), some (.int v2), some (.int v3), none, none], [.ref 22, .int 64, .int v2, .ref 22], h, 0, 0)) rfl (Nat.le_of_ble_eq_true rfl) (Nat.le_of_ble_eq_true rfl) ?_
      refine mr_get ok_Mo_places rfl hM (v := .ref 50) rfl (pc' := 28) rfl (Nat.le_of_ble_eq_true rfl) (Nat.le_of_ble_eq_true rfl) ?_
      refine am_steps ok_Mo_places 1 (x' := (29, [some (.ref 22), some (.int v1), some (.int v2), some (.int v3), none, none], [.int v3, .ref 50, .int 64, .int v2, .ref 22], h, 0, 0)) rfl (Nat.le_of_ble_eq_true rfl) (Nat.le_of_ble_eq_true rfl) ?_
      obtain ⟨j5, hx6, hd7⟩ := Option.bind_eq_some_iff.mp hd; clear hd; have hd := hd7; clear hd7
      refine mr_iald ok_Mo_places rfl hM (N := 1000) (by decide) hx6 (pc' := 30) rfl (Nat.le_of_ble_eq_true rfl) (Nat.le_of_ble_eq_true rfl) ?_
      refine am_steps ok_Mo_places 2 (x' := (32, [some (.ref 22), some (.int v1), some (.int v2), some (.int v3), none, none], [.ref 22, .int (64 * (s.2.2.1 50 j5)), .int v2, .ref 22], h, 0, 0)) rfl (Nat.le_of_ble_eq_true rfl) (Nat.le_of_ble_eq_true rfl) ?_
      refine mr_get ok_Mo_places rfl hM (v := .ref 52) rfl (pc' := 35) rfl (Nat.le_of_ble_eq_true rfl) (Nat.le_of_ble_eq_true rfl) ?_
      refine am_steps ok_Mo_places 1 (x' := (36, [some (.ref 22), some (.int v1), some (.int v2), some (.int v3), none, none], [.int v3, .ref 52, .int (64 * (s.2.2.1 50 j5)), .int v2, .ref 22], h, 0, 0)) rfl (Nat.le_of_ble_eq_true rfl) (Nat.le_of_ble_eq_true rfl) ?_
      refine mr_iald ok_Mo_places rfl hM (N := 1000) (by decide) hx6 (pc' := 37) rfl (Nat.le_of_ble_eq_true rfl) (Nat.le_of_ble_eq_true rfl) ?_
      refine am_steps ok_Mo_places 1 (x' := (38, [some (.ref 22), some (.int v1), some (.int v2), some (.int v3), none, none], [.int ((64 * (s.2.2.1 50 j5)) + (s.2.2.1 52 j5)), .int v2, .ref 22], h, 0, 0)) rfl (Nat.le_of_ble_eq_true rfl) (Nat.le_of_ble_eq_true rfl) ?_
      obtain ⟨q8, hq9, hd10⟩ := Option.bind_eq_some_iff.mp hd; clear hd; have hd := hd10; clear hd10
      refine ar_cv ok_Mo_places hk_Mo_noted rfl rfl (As := [.int v2, .int ((64 * (s.2.2.1 50 j5)) + (s.2.2.1 52 j5))]) (ad := 22) (rest := []) rfl rfl hM.1 (Nat.le_of_ble_eq_true rfl) (k_Mo_noted v2 ((64 * (s.2.2.1 50 j5)) + (s.2.2.1 52 j5)) s h hM q8 hq9) (Nat.le_of_ble_eq_true rfl) (Nat.le_of_ble_eq_true rfl) (Nat.le_of_ble_eq_true rfl) (Nat.le_of_ble_eq_true rfl) (pc' := 41) rfl (fun r11 h13 z12 => ?_)
      obtain ⟨rfl, hM14, g16⟩ := z12
      have f15 := mF.tr f g16
      show am_S _ _ _ _ _ _ _ (41, [some (.ref 22), some (.int v1), some (.int v2), some (.int v3), none, none], [.int q8.1], h13, 0, 0) _
      refine am_steps ok_Mo_places 5 (x' := (47, [some (.ref 22), some (.int v1), some (.int q8.1), some (.int v3), none, none], [.ref 22, .int 64, .int q8.1, .ref 22], h13, 0, 0)) rfl (Nat.le_of_ble_eq_true rfl) (Nat.le_of_ble_eq_true rfl) ?_
      refine mr_get ok_Mo_places rfl hM14 (v := .ref 51) rfl (pc' := 50) rfl (Nat.le_of_ble_eq_true rfl) (Nat.le_of_ble_eq_true rfl) ?_
      refine am_steps ok_Mo_places 1 (x' := (51, [some (.ref 22), some (.int v1), some (.int q8.1), some (.int v3), none, none], [.int v3, .ref 51, .int 64, .int q8.1, .ref 22], h13, 0, 0)) rfl (Nat.le_of_ble_eq_true rfl) (Nat.le_of_ble_eq_true rfl) ?_
      refine mr_iald ok_Mo_places rfl hM14 (N := 1000) (by decide) hx6 (pc' := 52) rfl (Nat.le_of_ble_eq_true rfl) (Nat.le_of_ble_eq_true rfl) ?_
      refine am_steps ok_Mo_places 2 (x' := (54, [some (.ref 22), some (.int v1), some (.int q8.1), some (.int v3), none, none], [.ref 22, .int (64 * (q8.2.2.2.1 51 j5)), .int q8.1, .ref 22], h13, 0, 0)) rfl (Nat.le_of_ble_eq_true rfl) (Nat.le_of_ble_eq_true rfl) ?_
      refine mr_get ok_Mo_places rfl hM14 (v := .ref 52) rfl (pc' := 57) rfl (Nat.le_of_ble_eq_true rfl) (Nat.le_of_ble_eq_true rfl) ?_
      refine am_steps ok_Mo_places 1 (x' := (58, [some (.ref 22), some (.int v1), some (.int q8.1), some (.int v3), none, none], [.int v3, .ref 52, .int (64 * (q8.2.2.2.1 51 j5)), .int q8.1, .ref 22], h13, 0, 0)) rfl (Nat.le_of_ble_eq_true rfl) (Nat.le_of_ble_eq_true rfl) ?_
      refine mr_iald ok_Mo_places rfl hM14 (N := 1000) (by decide) hx6 (pc' := 59) rfl (Nat.le_of_ble_eq_true rfl) (Nat.le_of_ble_eq_true rfl) ?_
      refine am_steps ok_Mo_places 1 (x' := (60, [some (.ref 22), some (.int v1), some (.int q8.1), some (.int v3), none, none], [.int ((64 * (q8.2.2.2.1 51 j5)) + (q8.2.2.2.1 52 j5)), .int q8.1, .ref 22], h13, 0, 0)) rfl (Nat.le_of_ble_eq_true rfl) (Nat.le_of_ble_eq_true rfl) ?_
      obtain ⟨q17, hq18, hd19⟩ := Option.bind_eq_some_iff.mp hd; clear hd; have hd := hd19; clear hd19
      refine ar_cv ok_Mo_places hk_Mo_noted rfl rfl (As := [.int q8.1, .int ((64 * (q8.2.2.2.1 51 j5)) + (q8.2.2.2.1 52 j5))]) (ad := 22) (rest := []) rfl rfl hM14.1 (Nat.le_of_ble_eq_true rfl) (k_Mo_noted q8.1 ((64 * (q8.2.2.2.1 51 j5)) + (q8.2.2.2.1 52 j5)) q8.2 h13 hM14 q17 hq18) (Nat.le_of_ble_eq_true rfl) (Nat.le_of_ble_eq_true rfl) (Nat.le_of_ble_eq_true rfl) (Nat.le_of_ble_eq_true rfl) (pc' := 63) rfl (fun r20 h22 z21 => ?_)
      obtain ⟨rfl, hM23, g25⟩ := z21
      have f24 := mF.tr f15 g25
      show am_S _ _ _ _ _ _ _ (63, [some (.ref 22), some (.int v1), some (.int q8.1), some (.int v3), none, none], [.int q17.1], h22, 0, 0) _
      refine am_steps ok_Mo_places 3 (x' := (68, [some (.ref 22), some (.int v1), some (.int q17.1), some (.int v3), none, none], [.ref 22, .int 256], h22, 0, 0)) rfl (Nat.le_of_ble_eq_true rfl) (Nat.le_of_ble_eq_true rfl) ?_
      refine mr_get ok_Mo_places rfl hM23 (v := .ref 50) rfl (pc' := 71) rfl (Nat.le_of_ble_eq_true rfl) (Nat.le_of_ble_eq_true rfl) ?_
      refine am_steps ok_Mo_places 1 (x' := (72, [some (.ref 22), some (.int v1), some (.int q17.1), some (.int v3), none, none], [.int v3, .ref 50, .int 256], h22, 0, 0)) rfl (Nat.le_of_ble_eq_true rfl) (Nat.le_of_ble_eq_true rfl) ?_
      refine mr_iald ok_Mo_places rfl hM23 (N := 1000) (by decide) hx6 (pc' := 73) rfl (Nat.le_of_ble_eq_true rfl) (Nat.le_of_ble_eq_true rfl) ?_
      refine am_steps ok_Mo_places 2 (x' := (75, [some (.ref 22), some (.int v1), some (.int q17.1), some (.int v3), none, none], [.ref 22, .int (256 * (q17.2.2.2.1 50 j5))], h22, 0, 0)) rfl (Nat.le_of_ble_eq_true rfl) (Nat.le_of_ble_eq_true rfl) ?_
      refine mr_get ok_Mo_places rfl hM23 (v := .ref 51) rfl (pc' := 78) rfl (Nat.le_of_ble_eq_true rfl) (Nat.le_of_ble_eq_true rfl) ?_
      refine am_steps ok_Mo_places 1 (x' := (79, [some (.ref 22), some (.int v1), some (.int q17.1), some (.int v3), none, none], [.int v3, .ref 51, .int (256 * (q17.2.2.2.1 50 j5))], h22, 0, 0)) rfl (Nat.le_of_ble_eq_true rfl) (Nat.le_of_ble_eq_true rfl) ?_
      refine mr_iald ok_Mo_places rfl hM23 (N := 1000) (by decide) hx6 (pc' := 80) rfl (Nat.le_of_ble_eq_true rfl) (Nat.le_of_ble_eq_true rfl) ?_
      refine am_steps ok_Mo_places 4 (x' := (87, [some (.ref 22), some (.int v1), some (.int q17.1), some (.int v3), some (.int ((256 * (q17.2.2.2.1 50 j5)) + (q17.2.2.2.1 51 j5))), none], [.ref 22, .int 256], h22, 0, 0)) rfl (Nat.le_of_ble_eq_true rfl) (Nat.le_of_ble_eq_true rfl) ?_
      refine mr_get ok_Mo_places rfl hM23 (v := .ref 51) rfl (pc' := 90) rfl (Nat.le_of_ble_eq_true rfl) (Nat.le_of_ble_eq_true rfl) ?_
      refine am_steps ok_Mo_places 1 (x' := (91, [some (.ref 22), some (.int v1), some (.int q17.1), some (.int v3), some (.int ((256 * (q17.2.2.2.1 50 j5)) + (q17.2.2.2.1 51 j5))), none], [.int v3, .ref 51, .int 256], h22, 0, 0)) rfl (Nat.le_of_ble_eq_true rfl) (Nat.le_of_ble_eq_true rfl) ?_
      refine mr_iald ok_Mo_places rfl hM23 (N := 1000) (by decide) hx6 (pc' := 92) rfl (Nat.le_of_ble_eq_true rfl) (Nat.le_of_ble_eq_true rfl) ?_
      refine am_steps ok_Mo_places 2 (x' := (94, [some (.ref 22), some (.int v1), some (.int q17.1), some (.int v3), some (.int ((256 * (q17.2.2.2.1 50 j5)) + (q17.2.2.2.1 51 j5))), none], [.ref 22, .int (256 * (q17.2.2.2.1 51 j5))], h22, 0, 0)) rfl (Nat.le_of_ble_eq_true rfl) (Nat.le_of_ble_eq_true rfl) ?_
      refine mr_get ok_Mo_places rfl hM23 (v := .ref 50) rfl (pc' := 97) rfl (Nat.le_of_ble_eq_true rfl) (Nat.le_of_ble_eq_true rfl) ?_
      refine am_steps ok_Mo_places 1 (x' := (98, [some (.ref 22), some (.int v1), some (.int q17.1), some (.int v3), some (.int ((256 * (q17.2.2.2.1 50 j5)) + (q17.2.2.2.1 51 j5))), none], [.int v3, .ref 50, .int (256 * (q17.2.2.2.1 51 j5))], h22, 0, 0)) rfl (Nat.le_of_ble_eq_true rfl) (Nat.le_of_ble_eq_true rfl) ?_
      refine mr_iald ok_Mo_places rfl hM23 (N := 1000) (by decide) hx6 (pc' := 99) rfl (Nat.le_of_ble_eq_true rfl) (Nat.le_of_ble_eq_true rfl) ?_
      refine am_steps ok_Mo_places 3 (x' := (103, [some (.ref 22), some (.int v1), some (.int q17.1), some (.int v3), some (.int ((256 * (q17.2.2.2.1 50 j5)) + (q17.2.2.2.1 51 j5))), some (.int ((256 * (q17.2.2.2.1 51 j5)) + (q17.2.2.2.1 50 j5)))], [.ref 22], h22, 0, 0)) rfl (Nat.le_of_ble_eq_true rfl) (Nat.le_of_ble_eq_true rfl) ?_
      refine mr_get ok_Mo_places rfl hM23 (v := .ref 52) rfl (pc' := 106) rfl (Nat.le_of_ble_eq_true rfl) (Nat.le_of_ble_eq_true rfl) ?_
      refine am_steps ok_Mo_places 1 (x' := (107, [some (.ref 22), some (.int v1), some (.int q17.1), some (.int v3), some (.int ((256 * (q17.2.2.2.1 50 j5)) + (q17.2.2.2.1 51 j5))), some (.int ((256 * (q17.2.2.2.1 51 j5)) + (q17.2.2.2.1 50 j5)))], [.int v3, .ref 52], h22, 0, 0)) rfl (Nat.le_of_ble_eq_true rfl) (Nat.le_of_ble_eq_true rfl) ?_
      refine mr_iald ok_Mo_places rfl hM23 (N := 1000) (by decide) hx6 (pc' := 108) rfl (Nat.le_of_ble_eq_true rfl) (Nat.le_of_ble_eq_true rfl) ?_
      refine am_steps ok_Mo_places 1 (x' := (109, [some (.ref 22), some (.int v1), some (.int q17.1), some (.int v3), some (.int ((256 * (q17.2.2.2.1 50 j5)) + (q17.2.2.2.1 51 j5))), some (.int ((256 * (q17.2.2.2.1 51 j5)) + (q17.2.2.2.1 50 j5)))], [.ref 22, .int (q17.2.2.2.1 52 j5)], h22, 0, 0)) rfl (Nat.le_of_ble_eq_true rfl) (Nat.le_of_ble_eq_true rfl) ?_
      refine mr_get ok_Mo_places rfl hM23 (v := .int (q17.2.1 16)) rfl (pc' := 112) rfl (Nat.le_of_ble_eq_true rfl) (Nat.le_of_ble_eq_true rfl) ?_
      refine am_steps ok_Mo_places 1 (x' := (if ¬ ((q17.2.2.2.1 52 j5) : Int32) = (q17.2.1 16) then 139 else 115, [some (.ref 22), some (.int v1), some (.int q17.1), some (.int v3), some (.int ((256 * (q17.2.2.2.1 50 j5)) + (q17.2.2.2.1 51 j5))), some (.int ((256 * (q17.2.2.2.1 51 j5)) + (q17.2.2.2.1 50 j5)))], [], h22, 0, 0)) rfl (Nat.le_of_ble_eq_true rfl) (Nat.le_of_ble_eq_true rfl) ?_
      obtain ⟨u26, hA28, hB29⟩ := Option.bind_eq_some_iff.mp hd; clear hd
      have K27 : ∀ h' : am_H, RM u26.2 h' → mF h0 h' → am_S am_Pr none 1 23 0 0 58 (139, [some (.ref 22), some (.int v1), some (.int u26.1), some (.int v3), none, some (.int ((256 * (q17.2.2.2.1 51 j5)) + (q17.2.2.2.1 50 j5)))], [], h', 0, 0) Q := by
        have hd := hB29
        intro h30 hM31 f32
        refine am_steps ok_Mo_places 1 (x' := (140, [some (.ref 22), some (.int v1), some (.int u26.1), some (.int v3), none, some (.int ((256 * (q17.2.2.2.1 51 j5)) + (q17.2.2.2.1 50 j5)))], [.ref 22], h30, 0, 0)) rfl (Nat.le_of_ble_eq_true rfl) (Nat.le_of_ble_eq_true rfl) ?_
        refine mr_get ok_Mo_places rfl hM31 (v := .ref 52) rfl (pc' := 143) rfl (Nat.le_of_ble_eq_true rfl) (Nat.le_of_ble_eq_true rfl) ?_
        refine am_steps ok_Mo_places 1 (x' := (144, [some (.ref 22), some (.int v1), some (.int u26.1), some (.int v3), none, some (.int ((256 * (q17.2.2.2.1 51 j5)) + (q17.2.2.2.1 50 j5)))], [.int v3, .ref 52], h30, 0, 0)) rfl (Nat.le_of_ble_eq_true rfl) (Nat.le_of_ble_eq_true rfl) ?_
        refine mr_iald ok_Mo_places rfl hM31 (N := 1000) (by decide) hx6 (pc' := 145) rfl (Nat.le_of_ble_eq_true rfl) (Nat.le_of_ble_eq_true rfl) ?_
        refine am_steps ok_Mo_places 1 (x' := (146, [some (.ref 22), some (.int v1), some (.int u26.1), some (.int v3), none, some (.int ((256 * (q17.2.2.2.1 51 j5)) + (q17.2.2.2.1 50 j5)))], [.ref 22, .int (u26.2.2.2.1 52 j5)], h30, 0, 0)) rfl (Nat.le_of_ble_eq_true rfl) (Nat.le_of_ble_eq_true rfl) ?_
        refine mr_get ok_Mo_places rfl hM31 (v := .int (u26.2.1 16)) rfl (pc' := 149) rfl (Nat.le_of_ble_eq_true rfl) (Nat.le_of_ble_eq_true rfl) ?_
        refine am_steps ok_Mo_places 1 (x' := (if ¬ ((u26.2.2.2.1 52 j5) : Int32) = (u26.2.1 16) then 176 else 152, [some (.ref 22), some (.int v1), some (.int u26.1), some (.int v3), none, some (.int ((256 * (q17.2.2.2.1 51 j5)) + (q17.2.2.2.1 50 j5)))], [], h30, 0, 0)) rfl (Nat.le_of_ble_eq_true rfl) (Nat.le_of_ble_eq_true rfl) ?_
        obtain ⟨u33, hA35, hB36⟩ := Option.bind_eq_some_iff.mp hd; clear hd
        have K34 : ∀ h' : am_H, RM u33.2 h' → mF h0 h' → am_S am_Pr none 1 23 0 0 58 (176, [some (.ref 22), some (.int v1), some (.int u33.1), some (.int v3), none, none], [], h', 0, 0) Q := by
          have hd := hB36
          intro h37 hM38 f39
          refine am_steps ok_Mo_places 2 (x' := (6, [some (.ref 22), some (.int v1), some (.int u33.1), some (.int (v3 + 1)), none, none], [], h37, 0, 0)) rfl (Nat.le_of_ble_eq_true rfl) (Nat.le_of_ble_eq_true rfl) ?_
          exact ih v1 u33.1 (v3 + 1) u33.2 h37 hM38 f39 q hd kk
        clear hB36; have hd := hA35; clear hA35
        refine am_if (fun hc40 => ?_) (fun hc40 => ?_)
        · rw [if_pos hc40] at hd
          refine am_drop 5 ?_
          cases hd; exact K34 h30 hM31 f32
        · rw [if_neg hc40] at hd
          refine am_steps ok_Mo_places 1 (x' := (153, [some (.ref 22), some (.int v1), some (.int u26.1), some (.int v3), none, some (.int ((256 * (q17.2.2.2.1 51 j5)) + (q17.2.2.2.1 50 j5)))], [.ref 22], h30, 0, 0)) rfl (Nat.le_of_ble_eq_true rfl) (Nat.le_of_ble_eq_true rfl) ?_
          refine mr_get ok_Mo_places rfl hM31 (v := .ref 38) rfl (pc' := 156) rfl (Nat.le_of_ble_eq_true rfl) (Nat.le_of_ble_eq_true rfl) ?_
          refine am_steps ok_Mo_places 1 (x' := (158, [some (.ref 22), some (.int v1), some (.int u26.1), some (.int v3), none, some (.int ((256 * (q17.2.2.2.1 51 j5)) + (q17.2.2.2.1 50 j5)))], [.int ((256 * (q17.2.2.2.1 51 j5)) + (q17.2.2.2.1 50 j5)), .ref 38], h30, 0, 0)) rfl (Nat.le_of_ble_eq_true rfl) (Nat.le_of_ble_eq_true rfl) ?_
          obtain ⟨j41, hx42, hd43⟩ := Option.bind_eq_some_iff.mp hd; clear hd; have hd := hd43; clear hd43
          refine mr_lald ok_Mo_places rfl hM31 (N := 65536) (by decide) hx42 (pc' := 159) rfl (Nat.le_of_ble_eq_true rfl) (Nat.le_of_ble_eq_true rfl) ?_
          refine am_steps ok_Mo_places 3 (x' := (if ((lg_cmp (u26.2.2.2.2 38 j41) 0) : Int32) < 0 then 176 else 164, [some (.ref 22), some (.int v1), some (.int u26.1), some (.int v3), none, some (.int ((256 * (q17.2.2.2.1 51 j5)) + (q17.2.2.2.1 50 j5)))], [], h30, 0, 0)) rfl (Nat.le_of_ble_eq_true rfl) (Nat.le_of_ble_eq_true rfl) ?_
          refine am_if (fun hc44 => ?_) (fun hc44 => ?_)
          · rw [if_pos hc44] at hd
            refine am_drop 5 ?_
            cases hd; exact K34 h30 hM31 f32
          · rw [if_neg hc44] at hd
            refine am_steps ok_Mo_places 5 (x' := (172, [some (.ref 22), some (.int v1), some (.int u26.1), some (.int v3), none, some (.int ((256 * (q17.2.2.2.1 51 j5)) + (q17.2.2.2.1 50 j5)))], [.int (16384 + ((256 * (q17.2.2.2.1 51 j5)) + (q17.2.2.2.1 50 j5))), .int u26.1, .ref 22], h30, 0, 0)) rfl (Nat.le_of_ble_eq_true rfl) (Nat.le_of_ble_eq_true rfl) ?_
            obtain ⟨q45, hq46, hd47⟩ := Option.bind_eq_some_iff.mp hd; clear hd; have hd := hd47; clear hd47
            refine ar_cv ok_Mo_places hk_Mo_noted rfl rfl (As := [.int u26.1, .int (16384 + ((256 * (q17.2.2.2.1 51 j5)) + (q17.2.2.2.1 50 j5)))]) (ad := 22) (rest := []) rfl rfl hM31.1 (Nat.le_of_ble_eq_true rfl) (k_Mo_noted u26.1 (16384 + ((256 * (q17.2.2.2.1 51 j5)) + (q17.2.2.2.1 50 j5))) u26.2 h30 hM31 q45 hq46) (Nat.le_of_ble_eq_true rfl) (Nat.le_of_ble_eq_true rfl) (Nat.le_of_ble_eq_true rfl) (Nat.le_of_ble_eq_true rfl) (pc' := 175) rfl (fun r48 h50 z49 => ?_)
            obtain ⟨rfl, hM51, g53⟩ := z49
            have f52 := mF.tr f32 g53
            show am_S _ _ _ _ _ _ _ (175, [some (.ref 22), some (.int v1), some (.int u26.1), some (.int v3), none, some (.int ((256 * (q17.2.2.2.1 51 j5)) + (q17.2.2.2.1 50 j5)))], [.int q45.1], h50, 0, 0) _
            refine am_steps ok_Mo_places 1 (x' := (176, [some (.ref 22), some (.int v1), some (.int q45.1), some (.int v3), none, some (.int ((256 * (q17.2.2.2.1 51 j5)) + (q17.2.2.2.1 50 j5)))], [], h50, 0, 0)) rfl (Nat.le_of_ble_eq_true rfl) (Nat.le_of_ble_eq_true rfl) ?_
            refine am_drop 5 ?_
            cases hd; exact K34 h50 hM51 f52
      clear hB29; have hd := hA28; clear hA28
      refine am_if (fun hc54 => ?_) (fun hc54 => ?_)
      · rw [if_pos hc54] at hd
        refine am_drop 4 ?_
        cases hd; exact K27 h22 hM23 f24
      · rw [if_neg hc54] at hd
        refine am_steps ok_Mo_places 1 (x' := (116, [some (.ref 22), some (.int v1), some (.int q17.1), some (.int v3), some (.int ((256 * (q17.2.2.2.1 50 j5)) + (q17.2.2.2.1 51 j5))), some (.int ((256 * (q17.2.2.2.1 51 j5)) + (q17.2.2.2.1 50 j5)))], [.ref 22], h22, 0, 0)) rfl (Nat.le_of_ble_eq_true rfl) (Nat.le_of_ble_eq_true rfl) ?_
        refine mr_get ok_Mo_places rfl hM23 (v := .ref 38) rfl (pc' := 119) rfl (Nat.le_of_ble_eq_true rfl) (Nat.le_of_ble_eq_true rfl) ?_
        refine am_steps ok_Mo_places 1 (x' := (121, [some (.ref 22), some (.int v1), some (.int q17.1), some (.int v3), some (.int ((256 * (q17.2.2.2.1 50 j5)) + (q17.2.2.2.1 51 j5))), some (.int ((256 * (q17.2.2.2.1 51 j5)) + (q17.2.2.2.1 50 j5)))], [.int ((256 * (q17.2.2.2.1 50 j5)) + (q17.2.2.2.1 51 j5)), .ref 38], h22, 0, 0)) rfl (Nat.le_of_ble_eq_true rfl) (Nat.le_of_ble_eq_true rfl) ?_
        obtain ⟨j55, hx56, hd57⟩ := Option.bind_eq_some_iff.mp hd; clear hd; have hd := hd57; clear hd57
        refine mr_lald ok_Mo_places rfl hM23 (N := 65536) (by decide) hx56 (pc' := 122) rfl (Nat.le_of_ble_eq_true rfl) (Nat.le_of_ble_eq_true rfl) ?_
        refine am_steps ok_Mo_places 3 (x' := (if ((lg_cmp (q17.2.2.2.2 38 j55) 0) : Int32) < 0 then 139 else 127, [some (.ref 22), some (.int v1), some (.int q17.1), some (.int v3), some (.int ((256 * (q17.2.2.2.1 50 j5)) + (q17.2.2.2.1 51 j5))), some (.int ((256 * (q17.2.2.2.1 51 j5)) + (q17.2.2.2.1 50 j5)))], [], h22, 0, 0)) rfl (Nat.le_of_ble_eq_true rfl) (Nat.le_of_ble_eq_true rfl) ?_
        refine am_if (fun hc58 => ?_) (fun hc58 => ?_)
        · rw [if_pos hc58] at hd
          refine am_drop 4 ?_
          cases hd; exact K27 h22 hM23 f24
        · rw [if_neg hc58] at hd
          refine am_steps ok_Mo_places 5 (x' := (135, [some (.ref 22), some (.int v1), some (.int q17.1), some (.int v3), some (.int ((256 * (q17.2.2.2.1 50 j5)) + (q17.2.2.2.1 51 j5))), some (.int ((256 * (q17.2.2.2.1 51 j5)) + (q17.2.2.2.1 50 j5)))], [.int (16384 + ((256 * (q17.2.2.2.1 50 j5)) + (q17.2.2.2.1 51 j5))), .int q17.1, .ref 22], h22, 0, 0)) rfl (Nat.le_of_ble_eq_true rfl) (Nat.le_of_ble_eq_true rfl) ?_
          obtain ⟨q59, hq60, hd61⟩ := Option.bind_eq_some_iff.mp hd; clear hd; have hd := hd61; clear hd61
          refine ar_cv ok_Mo_places hk_Mo_noted rfl rfl (As := [.int q17.1, .int (16384 + ((256 * (q17.2.2.2.1 50 j5)) + (q17.2.2.2.1 51 j5)))]) (ad := 22) (rest := []) rfl rfl hM23.1 (Nat.le_of_ble_eq_true rfl) (k_Mo_noted q17.1 (16384 + ((256 * (q17.2.2.2.1 50 j5)) + (q17.2.2.2.1 51 j5))) q17.2 h22 hM23 q59 hq60) (Nat.le_of_ble_eq_true rfl) (Nat.le_of_ble_eq_true rfl) (Nat.le_of_ble_eq_true rfl) (Nat.le_of_ble_eq_true rfl) (pc' := 138) rfl (fun r62 h64 z63 => ?_)
          obtain ⟨rfl, hM65, g67⟩ := z63
          have f66 := mF.tr f24 g67
          show am_S _ _ _ _ _ _ _ (138, [some (.ref 22), some (.int v1), some (.int q17.1), some (.int v3), some (.int ((256 * (q17.2.2.2.1 50 j5)) + (q17.2.2.2.1 51 j5))), some (.int ((256 * (q17.2.2.2.1 51 j5)) + (q17.2.2.2.1 50 j5)))], [.int q59.1], h64, 0, 0) _
          refine am_steps ok_Mo_places 1 (x' := (139, [some (.ref 22), some (.int v1), some (.int q59.1), some (.int v3), some (.int ((256 * (q17.2.2.2.1 50 j5)) + (q17.2.2.2.1 51 j5))), some (.int ((256 * (q17.2.2.2.1 51 j5)) + (q17.2.2.2.1 50 j5)))], [], h64, 0, 0)) rfl (Nat.le_of_ble_eq_true rfl) (Nat.le_of_ble_eq_true rfl) ?_
          refine am_drop 4 ?_
          cases hd; exact K27 h64 hM65 f66
def d_Mo_places (a : Int32) (s : mS) : Option (Int32 × mS) := (l_Mo_places_6 100000 a 0 (4 * a) s).bind fun q68 => (some (q68.1, q68.2))
set_option maxHeartbeats 4000000 in
set_option maxRecDepth 100000 in
theorem k_Mo_places (a : Int32) (s : mS) (h0 : am_H) (hM : RM s h0) (q : Int32 × mS) (hd : d_Mo_places a s = some q) : am_Me am_Pr none 1 23 0 0 58 [.ref 22, .int a] h0 (mQr (.int q.1) q.2 h0) := by
  refine am_enter (d := hd_Mo_places) rfl (by decide +kernel) (Nat.le_of_ble_eq_true rfl) ?_
  show am_S _ _ _ _ _ _ _ (0, [some (.ref 22), some (.int a), none, none, none, none], [], h0, 0, 0) _
  unfold d_Mo_places at hd
  refine am_steps ok_Mo_places 6 (x' := (6, [some (.ref 22), some (.int a), some (.int 0), some (.int (4 * a)), none, none], [], h0, 0, 0)) rfl (Nat.le_of_ble_eq_true rfl) (Nat.le_of_ble_eq_true rfl) ?_
  obtain ⟨q68, hq69, hd70⟩ := Option.bind_eq_some_iff.mp hd; clear hd; have hd := hd70; clear hd70
  refine L_Mo_places_6 h0 100000 a 0 (4 * a) s h0 hM (mF.rf) q68 hq69 (fun h71 hM72 f73 => ?_)
  show am_S _ _ _ _ _ _ _ (182, [some (.ref 22), some (.int a), some (.int q68.1), none, none, none], [], h71, 0, 0) _
  refine am_steps ok_Mo_places 1 (x' := (183, [some (.ref 22), some (.int a), some (.int q68.1), none, none, none], [.int q68.1], h71, 0, 0)) rfl (Nat.le_of_ble_eq_true rfl) (Nat.le_of_ble_eq_true rfl) ?_
  cases hd; exact am_ret ok_Mo_places rfl (Nat.le_of_ble_eq_true rfl) (Nat.le_of_ble_eq_true rfl) ⟨rfl, hM72, f73⟩
