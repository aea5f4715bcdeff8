/-! Methods of the reference as functions of its state. -/
def l_Mo_queue_4 : Nat → Int32 → Int32 → Int32 → mS → Option (Int32)
  | 0, _, _, _, _ => none
  | fu + 1, v1, v2, v3, s => (am_ix v1 250).bind fun j1 => (if ((s.2.2.1 45 j1) : Int32) ≤ v3 then (some v2) else ((if (v2 : Int32) = 0 then (some 0) else ((am_ix ((4 * v1) + v3) 1000).bind fun j10 => (if ((s.2.2.1 54 j10) : Int32) = 0 then (some 0) else (some 1)))).bind fun (u5 : Int32) => (l_Mo_queue_4 fu v1 u5 (v3 + 1) s)))
set_option maxHeartbeats 4000000 in
set_option maxRecDepth 100000 in
theorem L_Mo_queue_4 {Q : Option Value → am_H → Prop} (s : mS) (h : am_H) (hM : RM s h) : ∀ (fu : Nat) (v1 : Int32) (v2 : Int32) (v3 : Int32) (q : Int32), l_Mo_queue_4 fu v1 v2 v3 s = some q → am_S am_Pr none 0 0 0 0 77 (43, [some (.ref 22), some (.int v1), some (.int q), none], [], h, 0, 0) Q → am_S am_Pr none 0 0 0 0 77 (4, [some (.ref 22), some (.int v1), some (.int v2), some (.int v3)], [], h, 0, 0) Q := by
  intro fu
  induction fu with
  | zero => intro v1 v2 v3 q hd; cases hd
  | succ fu ih =>
    intro v1 v2 v3 q hd kk
    unfold l_Mo_queue_4 at hd
    refine am_steps ok_Mo_queue 2 (x' := (6, [some (.ref 22), some (.int v1), some (.int v2), some (.int v3)], [.ref 22, .int v3], h, 0, 0)) rfl (Nat.le_of_ble_eq_true rfl) (Nat.le_of_ble_eq_true rfl) ?_
    refine mr_get ok_Mo_queue rfl hM (v := .ref 45) rfl (pc' := 9) rfl (Nat.le_of_ble_eq_true rfl) (Nat.le_of_ble_eq_true rfl) ?_
    refine am_steps ok_Mo_queue 1 (x' := (10, [some (.ref 22), some (.int v1), some (.int v2), some (.int v3)], [.int v1, .ref 45, .int v3], h, 0, 0)) rfl (Nat.le_of_ble_eq_true rfl) (Nat.le_of_ble_eq_true rfl) ?_
    obtain ⟨j1, hx2, hd3⟩ := Option.bind_eq_some_iff.mp hd; clear hd; have hd := hd3; clear hd3
    refine mr_iald ok_Mo_queue rfl hM (N := 250) (by decide) hx2 (pc' := 11) rfl (Nat.le_of_ble_eq_true rfl) (Nat.le_of_ble_eq_true rfl) ?_
    refine am_steps ok_Mo_queue 1 (x' := (if ((s.2.2.1 45 j1) : Int32) ≤ v3 then 43 else 14, [some (.ref 22), some (.int v1), some (.int v2), some (.int v3)], [], h, 0, 0)) rfl (Nat.le_of_ble_eq_true rfl) (Nat.le_of_ble_eq_true rfl) ?_
    refine am_if (fun hc4 => ?_) (fun hc4 => ?_)
    · rw [if_pos hc4] at hd
      refine am_drop 3 ?_
      cases hd; exact kk
    · rw [if_neg hc4] at hd
      refine am_steps ok_Mo_queue 2 (x' := (if (v2 : Int32) = 0 then 35 else 18, [some (.ref 22), some (.int v1), some (.int v2), some (.int v3)], [], h, 0, 0)) rfl (Nat.le_of_ble_eq_true rfl) (Nat.le_of_ble_eq_true rfl) ?_
      obtain ⟨u5, hA7, hB8⟩ := Option.bind_eq_some_iff.mp hd; clear hd
      have K6 : am_S am_Pr none 0 0 0 0 77 (36, [some (.ref 22), some (.int v1), none, some (.int v3)], [.int u5], h, 0, 0) Q := by
        have hd := hB8
        refine am_steps ok_Mo_queue 3 (x' := (4, [some (.ref 22), some (.int v1), some (.int u5), some (.int (v3 + 1))], [], h, 0, 0)) rfl (Nat.le_of_ble_eq_true rfl) (Nat.le_of_ble_eq_true rfl) ?_
        exact ih v1 u5 (v3 + 1) q hd kk
      clear hB8; have hd := hA7; clear hA7
      refine am_if (fun hc9 => ?_) (fun hc9 => ?_)
      · rw [if_pos hc9] at hd
        refine am_steps ok_Mo_queue 1 (x' := (36, [some (.ref 22), some (.int v1), some (.int v2), some (.int v3)], [.int 0], h, 0, 0)) rfl (Nat.le_of_ble_eq_true rfl) (Nat.le_of_ble_eq_true rfl) ?_
        refine am_drop 2 ?_
        cases hd; exact K6 
      · rw [if_neg hc9] at hd
        refine am_steps ok_Mo_queue 1 (x' := (19, [some (.ref 22), some (.int v1), some (.int v2), some (.int v3)], [.ref 22], h, 0, 0)) rfl (Nat.le_of_ble_eq_true rfl) (Nat.le_of_ble_eq_true rfl) ?_
        refine mr_get ok_Mo_queue rfl hM (v := .ref 54) rfl (pc' := 22) rfl (Nat.le_of_ble_eq_true rfl) (Nat.le_of_ble_eq_true rfl) ?_
        refine am_steps ok_Mo_queue 5 (x' := (27, [some (.ref 22), some (.int v1), some (.int v2), some (.int v3)], [.int ((4 * v1) + v3), .ref 54], h, 0, 0)) rfl (Nat.le_of_ble_eq_true rfl) (Nat.le_of_ble_eq_true rfl) ?_
        obtain ⟨j10, hx11, hd12⟩ := Option.bind_eq_some_iff.mp hd; clear hd; have hd := hd12; clear hd12
        refine mr_bald ok_Mo_queue rfl hM (N := 1000) (by decide) (Or.inr rfl) hx11 (pc' := 28) rfl (Nat.le_of_ble_eq_true rfl) (Nat.le_of_ble_eq_true rfl) ?_
        refine am_steps ok_Mo_queue 1 (x' := (if ((s.2.2.1 54 j10) : Int32) = 0 then 35 else 31, [some (.ref 22), some (.int v1), some (.int v2), some (.int v3)], [], h, 0, 0)) rfl (Nat.le_of_ble_eq_true rfl) (Nat.le_of_ble_eq_true rfl) ?_
        refine am_if (fun hc13 => ?_) (fun hc13 => ?_)
        · rw [if_pos hc13] at hd
          refine am_steps ok_Mo_queue 1 (x' := (36, [some (.ref 22), some (.int v1), some (.int v2), some (.int v3)], [.int 0], h, 0, 0)) rfl (Nat.le_of_ble_eq_true rfl) (Nat.le_of_ble_eq_true rfl) ?_
          refine am_drop 2 ?_
          cases hd; exact K6 
        · rw [if_neg hc13] at hd
          refine am_steps ok_Mo_queue 2 (x' := (36, [some (.ref 22), some (.int v1), some (.int v2), some (.int v3)], [.int 1], h, 0, 0)) rfl (Nat.le_of_ble_eq_true rfl) (Nat.le_of_ble_eq_true rfl) ?_
          refine am_drop 2 ?_
          cases hd; exact K6 
def d_Mo_queue (a : Int32) (s : mS) : Option (mS) := (l_Mo_queue_4 100000 a 1 0 s).bind fun q14 => (if ¬ (q14 : Int32) = 0 then ((am_ix a 250).bind fun j18 => (some (mB (mL (mA s 48 j18 (am_bn 3 1)) 45 ((s.2.1 45) + 1)) 47 j18 ((s.2.1 45) + 1)))) else (some s))
set_option maxHeartbeats 4000000 in
set_option maxRecDepth 100000 in
theorem k_Mo_queue (a : Int32) (s : mS) (h0 : am_H) (hM : RM s h0) (q : mS) (hd : d_Mo_queue a s = some q) : am_Me am_Pr none 0 0 0 0 77 [.ref 22, .int a] h0 (mQv q h0) := by
  refine am_enter (d := hd_Mo_queue) rfl (by decide +kernel) (Nat.le_of_ble_eq_true rfl) ?_
  show am_S _ _ _ _ _ _ _ (0, [some (.ref 22), some (.int a), none, none], [], h0, 0, 0) _
  unfold d_Mo_queue at hd
  refine am_steps ok_Mo_queue 4 (x' := (4, [some (.ref 22), some (.int a), some (.int 1), some (.int 0)], [], h0, 0, 0)) rfl (Nat.le_of_ble_eq_true rfl) (Nat.le_of_ble_eq_true rfl) ?_
  obtain ⟨q14, hq15, hd16⟩ := Option.bind_eq_some_iff.mp hd; clear hd; have hd := hd16; clear hd16
  refine L_Mo_queue_4 s h0 hM 100000 a 1 0 q14 hq15 ?_
  show am_S _ _ _ _ _ _ _ (43, [some (.ref 22), some (.int a), some (.int q14), none], [], h0, 0, 0) _
  refine am_steps ok_Mo_queue 2 (x' := (if ¬ (q14 : Int32) = 0 then 48 else 47, [some (.ref 22), some (.int a), some (.int q14), none], [], h0, 0, 0)) rfl (Nat.le_of_ble_eq_true rfl) (Nat.le_of_ble_eq_true rfl) ?_
  refine am_if (fun hc17 => ?_) (fun hc17 => ?_)
  · rw [if_pos hc17] at hd
    refine am_steps ok_Mo_queue 1 (x' := (49, [some (.ref 22), some (.int a), some (.int q14), none], [.ref 22], h0, 0, 0)) rfl (Nat.le_of_ble_eq_true rfl) (Nat.le_of_ble_eq_true rfl) ?_
    refine mr_get ok_Mo_queue rfl hM (v := .ref 48) rfl (pc' := 52) rfl (Nat.le_of_ble_eq_true rfl) (Nat.le_of_ble_eq_true rfl) ?_
    refine am_steps ok_Mo_queue 2 (x' := (54, [some (.ref 22), some (.int a), some (.int q14), none], [.int 1, .int a, .ref 48], h0, 0, 0)) rfl (Nat.le_of_ble_eq_true rfl) (Nat.le_of_ble_eq_true rfl) ?_
    obtain ⟨j18, hx19, hd20⟩ := Option.bind_eq_some_iff.mp hd; clear hd; have hd := hd20; clear hd20
    refine mr_bast ok_Mo_queue rfl hM (N := 250) (by decide) (Or.inr rfl) hx19 (pc' := 55) rfl (Nat.le_of_ble_eq_true rfl) (Nat.le_of_ble_eq_true rfl) (fun h21 hM22 g24 => ?_)
    have f23 := mF.tr (mF.rf) g24
    refine am_steps ok_Mo_queue 2 (x' := (57, [some (.ref 22), some (.int a), some (.int q14), none], [.ref 22, .ref 22], h21, 0, 0)) rfl (Nat.le_of_ble_eq_true rfl) (Nat.le_of_ble_eq_true rfl) ?_
    refine mr_get ok_Mo_queue rfl hM22 (v := .long (s.2.1 45)) rfl (pc' := 60) rfl (Nat.le_of_ble_eq_true rfl) (Nat.le_of_ble_eq_true rfl) ?_
    refine am_steps ok_Mo_queue 2 (x' := (62, [some (.ref 22), some (.int a), some (.int q14), none], [.long ((s.2.1 45) + 1), .ref 22], h21, 0, 0)) rfl (Nat.le_of_ble_eq_true rfl) (Nat.le_of_ble_eq_true rfl) ?_
    refine mr_put ok_Mo_queue rfl hM22 (by decide) rfl (s' := (mL (mA s 48 j18 (am_bn 3 1)) 45 ((s.2.1 45) + 1))) (mfs_45 _ _) rfl (pc' := 65) rfl (Nat.le_of_ble_eq_true rfl) (Nat.le_of_ble_eq_true rfl) (fun h25 hM26 g28 => ?_)
    have f27 := mF.tr f23 g28
    refine am_steps ok_Mo_queue 1 (x' := (66, [some (.ref 22), some (.int a), some (.int q14), none], [.ref 22], h25, 0, 0)) rfl (Nat.le_of_ble_eq_true rfl) (Nat.le_of_ble_eq_true rfl) ?_
    refine mr_get ok_Mo_queue rfl hM26 (v := .ref 47) rfl (pc' := 69) rfl (Nat.le_of_ble_eq_true rfl) (Nat.le_of_ble_eq_true rfl) ?_
    refine am_steps ok_Mo_queue 2 (x' := (71, [some (.ref 22), some (.int a), some (.int q14), none], [.ref 22, .int a, .ref 47], h25, 0, 0)) rfl (Nat.le_of_ble_eq_true rfl) (Nat.le_of_ble_eq_true rfl) ?_
    refine mr_get ok_Mo_queue rfl hM26 (v := .long ((s.2.1 45) + 1)) rfl (pc' := 74) rfl (Nat.le_of_ble_eq_true rfl) (Nat.le_of_ble_eq_true rfl) ?_
    refine mr_last ok_Mo_queue rfl hM26 (N := 250) (by decide) hx19 (pc' := 75) rfl (Nat.le_of_ble_eq_true rfl) (Nat.le_of_ble_eq_true rfl) (fun h29 hM30 g32 => ?_)
    have f31 := mF.tr f27 g32
    cases hd; exact am_ret ok_Mo_queue rfl (Nat.le_of_ble_eq_true rfl) (Nat.le_of_ble_eq_true rfl) ⟨rfl, hM30, f31⟩
  · rw [if_neg hc17] at hd
    cases hd; exact am_ret ok_Mo_queue rfl (Nat.le_of_ble_eq_true rfl) (Nat.le_of_ble_eq_true rfl) ⟨rfl, hM, (mF.rf)⟩
def l_Mo_comes_94 : Nat → Int32 → Int32 → mS → Option (mS)
  | 0, _, _, _ => none
  | fu + 1, v1, v2, s => (am_ix v1 250).bind fun j53 => (if ((s.2.2.1 45 j53) : Int32) ≤ v2 then (some s) else ((d_Mo_memberAt (17 + (26 * v2)) s).bind fun q57 => ((am_ix ((4 * v1) + v2) 1000).bind fun j68 => ((d_Mo_memberAt ((17 + (26 * v2)) + 4) (mA s 50 j68 q57)).bind fun q75 => ((d_Mo_assetAt ((17 + (26 * v2)) + 8) (mA (mA s 50 j68 q57) 51 j68 q75)).bind fun q90 => ((d_Mo_number ((17 + (26 * v2)) + 11) 15 (mA (mA (mA s 50 j68 q57) 51 j68 q75) 52 j68 q90)).bind fun q105 => ((if ¬ (((mA s 50 j68 q57).2.2.1 50 j68) : Int32) = (s.1 5) then (some 0) else (some 1)).bind fun (u120 : Int32) => (l_Mo_comes_94 fu v1 (v2 + 1) (mA (mB (mA (mA (mA s 50 j68 q57) 51 j68 q75) 52 j68 q90) 53 j68 q105) 54 j68 (am_bn 3 u120))))))))))
set_option maxHeartbeats 4000000 in
set_option maxRecDepth 100000 in
theorem L_Mo_comes_94 {Q : Option Value → am_H → Prop} (h0 : am_H) : ∀ (fu : Nat) (v1 : Int32) (v2 : Int32) (s : mS) (h : am_H), RM s h → mF h0 h → ∀ q : mS, l_Mo_comes_94 fu v1 v2 s = some q → (∀ h' : am_H, RM q h' → mF h0 h' → am_S am_Pr none 2 49 0 0 75 (220, [some (.ref 22), some (.int v1), none, none], [], h', 0, 0) Q) → am_S am_Pr none 2 49 0 0 75 (94, [some (.ref 22), some (.int v1), some (.int v2), none], [], h, 0, 0) Q := by
  intro fu
  induction fu with
  | zero => intro v1 v2 s h hM f q hd; cases hd
  | succ fu ih =>
    intro v1 v2 s h hM f q hd kk
    unfold l_Mo_comes_94 at hd
    refine am_steps ok_Mo_comes 2 (x' := (96, [some (.ref 22), some (.int v1), some (.int v2), none], [.ref 22, .int v2], h, 0, 0)) rfl (Nat.le_of_ble_eq_true rfl) (Nat.le_of_ble_eq_true rfl) ?_
    refine mr_get ok_Mo_comes rfl hM (v := .ref 45) rfl (pc' := 99) rfl (Nat.le_of_ble_eq_true rfl) (Nat.le_of_ble_eq_true rfl) ?_
    refine am_steps ok_Mo_comes 1 (x' := (100, [some (.ref 22), some (.int v1), some (.int v2), none], [.int v1, .ref 45, .int v2], h, 0, 0)) rfl (Nat.le_of_ble_eq_true rfl) (Nat.le_of_ble_eq_true rfl) ?_
    obtain ⟨j53, hx54, hd55⟩ := Option.bind_eq_some_iff.mp hd; clear hd; have hd := hd55; clear hd55
    refine mr_iald ok_Mo_comes rfl hM (N := 250) (by decide) hx54 (pc' := 101) rfl (Nat.le_of_ble_eq_true rfl) (Nat.le_of_ble_eq_true rfl) ?_
    refine am_steps ok_Mo_comes 1 (x' := (if ((s.2.2.1 45 j53) : Int32) ≤ v2 then 220 else 104, [some (.ref 22), some (.int v1), some (.int v2), none], [], h, 0, 0)) rfl (Nat.le_of_ble_eq_true rfl) (Nat.le_of_ble_eq_true rfl) ?_
    refine am_if (fun hc56 => ?_) (fun hc56 => ?_)
    · rw [if_pos hc56] at hd
      refine am_drop 2 ?_
      cases hd; exact kk h hM f
    · rw [if_neg hc56] at hd
      refine am_steps ok_Mo_comes 7 (x' := (113, [some (.ref 22), some (.int v1), some (.int v2), some (.int (17 + (26 * v2)))], [.ref 22], h, 0, 0)) rfl (Nat.le_of_ble_eq_true rfl) (Nat.le_of_ble_eq_true rfl) ?_
      refine mr_get ok_Mo_comes rfl hM (v := .ref 50) rfl (pc' := 116) rfl (Nat.le_of_ble_eq_true rfl) (Nat.le_of_ble_eq_true rfl) ?_
      refine am_steps ok_Mo_comes 7 (x' := (123, [some (.ref 22), some (.int v1), some (.int v2), some (.int (17 + (26 * v2)))], [.int (17 + (26 * v2)), .ref 22, .int ((4 * v1) + v2), .ref 50], h, 0, 0)) rfl (Nat.le_of_ble_eq_true rfl) (Nat.le_of_ble_eq_true rfl) ?_
      obtain ⟨q57, hq58, hd59⟩ := Option.bind_eq_some_iff.mp hd; clear hd; have hd := hd59; clear hd59
      refine ar_cv ok_Mo_comes hk_Mo_memberAt rfl rfl (As := [.int (17 + (26 * v2))]) (ad := 22) (rest := [.int ((4 * v1) + v2), .ref 50]) rfl rfl hM.1 (Nat.le_of_ble_eq_true rfl) (k_Mo_memberAt (17 + (26 * v2)) s h hM q57 hq58) (Nat.le_of_ble_eq_true rfl) (Nat.le_of_ble_eq_true rfl) (Nat.le_of_ble_eq_true rfl) (Nat.le_of_ble_eq_true rfl) (pc' := 126) rfl (fun r60 h62 z61 => ?_)
      obtain ⟨z66, z67⟩ := z61; subst z66; rw [z67]
      show am_S _ _ _ _ _ _ _ (126, [some (.ref 22), some (.int v1), some (.int v2), some (.int (17 + (26 * v2)))], [.int q57, .int ((4 * v1) + v2), .ref 50], h, 0, 0) _
      obtain ⟨j68, hx69, hd70⟩ := Option.bind_eq_some_iff.mp hd; clear hd; have hd := hd70; clear hd70
      refine mr_iast ok_Mo_comes rfl hM (N := 1000) (by decide) hx69 (pc' := 127) rfl (Nat.le_of_ble_eq_true rfl) (Nat.le_of_ble_eq_true rfl) (fun h71 hM72 g74 => ?_)
      have f73 := mF.tr f g74
      refine am_steps ok_Mo_comes 1 (x' := (128, [some (.ref 22), some (.int v1), some (.int v2), some (.int (17 + (26 * v2)))], [.ref 22], h71, 0, 0)) rfl (Nat.le_of_ble_eq_true rfl) (Nat.le_of_ble_eq_true rfl) ?_
      refine mr_get ok_Mo_comes rfl hM72 (v := .ref 51) rfl (pc' := 131) rfl (Nat.le_of_ble_eq_true rfl) (Nat.le_of_ble_eq_true rfl) ?_
      refine am_steps ok_Mo_comes 9 (x' := (140, [some (.ref 22), some (.int v1), some (.int v2), some (.int (17 + (26 * v2)))], [.int ((17 + (26 * v2)) + 4), .ref 22, .int ((4 * v1) + v2), .ref 51], h71, 0, 0)) rfl (Nat.le_of_ble_eq_true rfl) (Nat.le_of_ble_eq_true rfl) ?_
      obtain ⟨q75, hq76, hd77⟩ := Option.bind_eq_some_iff.mp hd; clear hd; have hd := hd77; clear hd77
      refine ar_cv ok_Mo_comes hk_Mo_memberAt rfl rfl (As := [.int ((17 + (26 * v2)) + 4)]) (ad := 22) (rest := [.int ((4 * v1) + v2), .ref 51]) rfl rfl hM72.1 (Nat.le_of_ble_eq_true rfl) (k_Mo_memberAt ((17 + (26 * v2)) + 4) (mA s 50 j68 q57) h71 hM72 q75 hq76) (Nat.le_of_ble_eq_true rfl) (Nat.le_of_ble_eq_true rfl) (Nat.le_of_ble_eq_true rfl) (Nat.le_of_ble_eq_true rfl) (pc' := 143) rfl (fun r78 h80 z79 => ?_)
      obtain ⟨z84, z85⟩ := z79; subst z84; rw [z85]
      show am_S _ _ _ _ _ _ _ (143, [some (.ref 22), some (.int v1), some (.int v2), some (.int (17 + (26 * v2)))], [.int q75, .int ((4 * v1) + v2), .ref 51], h71, 0, 0) _
      refine mr_iast ok_Mo_comes rfl hM72 (N := 1000) (by decide) hx69 (pc' := 144) rfl (Nat.le_of_ble_eq_true rfl) (Nat.le_of_ble_eq_true rfl) (fun h86 hM87 g89 => ?_)
      have f88 := mF.tr f73 g89
      refine am_steps ok_Mo_comes 1 (x' := (145, [some (.ref 22), some (.int v1), some (.int v2), some (.int (17 + (26 * v2)))], [.ref 22], h86, 0, 0)) rfl (Nat.le_of_ble_eq_true rfl) (Nat.le_of_ble_eq_true rfl) ?_
      refine mr_get ok_Mo_comes rfl hM87 (v := .ref 52) rfl (pc' := 148) rfl (Nat.le_of_ble_eq_true rfl) (Nat.le_of_ble_eq_true rfl) ?_
      refine am_steps ok_Mo_comes 9 (x' := (158, [some (.ref 22), some (.int v1), some (.int v2), some (.int (17 + (26 * v2)))], [.int ((17 + (26 * v2)) + 8), .ref 22, .int ((4 * v1) + v2), .ref 52], h86, 0, 0)) rfl (Nat.le_of_ble_eq_true rfl) (Nat.le_of_ble_eq_true rfl) ?_
      obtain ⟨q90, hq91, hd92⟩ := Option.bind_eq_some_iff.mp hd; clear hd; have hd := hd92; clear hd92
      refine ar_cv ok_Mo_comes hk_Mo_assetAt rfl rfl (As := [.int ((17 + (26 * v2)) + 8)]) (ad := 22) (rest := [.int ((4 * v1) + v2), .ref 52]) rfl rfl hM87.1 (Nat.le_of_ble_eq_true rfl) (k_Mo_assetAt ((17 + (26 * v2)) + 8) (mA (mA s 50 j68 q57) 51 j68 q75) h86 hM87 q90 hq91) (Nat.le_of_ble_eq_true rfl) (Nat.le_of_ble_eq_true rfl) (Nat.le_of_ble_eq_true rfl) (Nat.le_of_ble_eq_true rfl) (pc' := 161) rfl (fun r93 h95 z94 => ?_)
      obtain ⟨z99, z100⟩ := z94; subst z99; rw [z100]
      show am_S _ _ _ _ _ _ _ (161, [some (.ref 22), some (.int v1), some (.int v2), some (.int (17 + (26 * v2)))], [.int q90, .int ((4 * v1) + v2), .ref 52], h86, 0, 0) _
      refine mr_iast ok_Mo_comes rfl hM87 (N := 1000) (by decide) hx69 (pc' := 162) rfl (Nat.le_of_ble_eq_true rfl) (Nat.le_of_ble_eq_true rfl) (fun h101 hM102 g104 => ?_)
      have f103 := mF.tr f88 g104
      refine am_steps ok_Mo_comes 1 (x' := (163, [some (.ref 22), some (.int v1), some (.int v2), some (.int (17 + (26 * v2)))], [.ref 22], h101, 0, 0)) rfl (Nat.le_of_ble_eq_true rfl) (Nat.le_of_ble_eq_true rfl) ?_
      refine mr_get ok_Mo_comes rfl hM102 (v := .ref 53) rfl (pc' := 166) rfl (Nat.le_of_ble_eq_true rfl) (Nat.le_of_ble_eq_true rfl) ?_
      refine am_steps ok_Mo_comes 10 (x' := (178, [some (.ref 22), some (.int v1), some (.int v2), some (.int (17 + (26 * v2)))], [.int 15, .int ((17 + (26 * v2)) + 11), .ref 22, .int ((4 * v1) + v2), .ref 53], h101, 0, 0)) rfl (Nat.le_of_ble_eq_true rfl) (Nat.le_of_ble_eq_true rfl) ?_
      obtain ⟨q105, hq106, hd107⟩ := Option.bind_eq_some_iff.mp hd; clear hd; have hd := hd107; clear hd107
      refine ar_cv ok_Mo_comes hk_Mo_number rfl rfl (As := [.int ((17 + (26 * v2)) + 11), .int 15]) (ad := 22) (rest := [.int ((4 * v1) + v2), .ref 53]) rfl rfl hM102.1 (Nat.le_of_ble_eq_true rfl) (k_Mo_number ((17 + (26 * v2)) + 11) 15 (mA (mA (mA s 50 j68 q57) 51 j68 q75) 52 j68 q90) h101 hM102 q105 hq106) (Nat.le_of_ble_eq_true rfl) (Nat.le_of_ble_eq_true rfl) (Nat.le_of_ble_eq_true rfl) (Nat.le_of_ble_eq_true rfl) (pc' := 181) rfl (fun r108 h110 z109 => ?_)
      obtain ⟨z114, z115⟩ := z109; subst z114; rw [z115]
      show am_S _ _ _ _ _ _ _ (181, [some (.ref 22), some (.int v1), some (.int v2), some (.int (17 + (26 * v2)))], [.long q105, .int ((4 * v1) + v2), .ref 53], h101, 0, 0) _
      refine mr_last ok_Mo_comes rfl hM102 (N := 1000) (by decide) hx69 (pc' := 182) rfl (Nat.le_of_ble_eq_true rfl) (Nat.le_of_ble_eq_true rfl) (fun h116 hM117 g119 => ?_)
      have f118 := mF.tr f103 g119
      refine am_steps ok_Mo_comes 1 (x' := (183, [some (.ref 22), some (.int v1), some (.int v2), some (.int (17 + (26 * v2)))], [.ref 22], h116, 0, 0)) rfl (Nat.le_of_ble_eq_true rfl) (Nat.le_of_ble_eq_true rfl) ?_
      refine mr_get ok_Mo_comes rfl hM117 (v := .ref 54) rfl (pc' := 186) rfl (Nat.le_of_ble_eq_true rfl) (Nat.le_of_ble_eq_true rfl) ?_
      refine am_steps ok_Mo_comes 6 (x' := (192, [some (.ref 22), some (.int v1), some (.int v2), some (.int (17 + (26 * v2)))], [.ref 22, .int ((4 * v1) + v2), .ref 54], h116, 0, 0)) rfl (Nat.le_of_ble_eq_true rfl) (Nat.le_of_ble_eq_true rfl) ?_
      refine mr_get ok_Mo_comes rfl hM117 (v := .ref 50) rfl (pc' := 195) rfl (Nat.le_of_ble_eq_true rfl) (Nat.le_of_ble_eq_true rfl) ?_
      refine am_steps ok_Mo_comes 5 (x' := (200, [some (.ref 22), some (.int v1), some (.int v2), some (.int (17 + (26 * v2)))], [.int ((4 * v1) + v2), .ref 50, .int ((4 * v1) + v2), .ref 54], h116, 0, 0)) rfl (Nat.le_of_ble_eq_true rfl) (Nat.le_of_ble_eq_true rfl) ?_
      refine mr_iald ok_Mo_comes rfl hM117 (N := 1000) (by decide) hx69 (pc' := 201) rfl (Nat.le_of_ble_eq_true rfl) (Nat.le_of_ble_eq_true rfl) ?_
      show am_S _ _ _ _ _ _ _ (201, [some (.ref 22), some (.int v1), some (.int v2), some (.int (17 + (26 * v2)))], [.int ((mA s 50 j68 q57).2.2.1 50 j68), .int ((4 * v1) + v2), .ref 54], h116, 0, 0) _
      refine am_steps ok_Mo_comes 1 (x' := (202, [some (.ref 22), some (.int v1), some (.int v2), some (.int (17 + (26 * v2)))], [.ref 22, .int ((mA s 50 j68 q57).2.2.1 50 j68), .int ((4 * v1) + v2), .ref 54], h116, 0, 0)) rfl (Nat.le_of_ble_eq_true rfl) (Nat.le_of_ble_eq_true rfl) ?_
      refine mr_get ok_Mo_comes rfl hM117 (v := .int (s.1 5)) rfl (pc' := 205) rfl (Nat.le_of_ble_eq_true rfl) (Nat.le_of_ble_eq_true rfl) ?_
      refine am_steps ok_Mo_comes 1 (x' := (if ¬ (((mA s 50 j68 q57).2.2.1 50 j68) : Int32) = (s.1 5) then 212 else 208, [some (.ref 22), some (.int v1), some (.int v2), some (.int (17 + (26 * v2)))], [.int ((4 * v1) + v2), .ref 54], h116, 0, 0)) rfl (Nat.le_of_ble_eq_true rfl) (Nat.le_of_ble_eq_true rfl) ?_
      obtain ⟨u120, hA122, hB123⟩ := Option.bind_eq_some_iff.mp hd; clear hd
      have K121 : am_S am_Pr none 2 49 0 0 75 (213, [some (.ref 22), some (.int v1), some (.int v2), none], [.int u120, .int ((4 * v1) + v2), .ref 54], h116, 0, 0) Q := by
        have hd := hB123
        refine mr_bast ok_Mo_comes rfl hM117 (N := 1000) (by decide) (Or.inr rfl) hx69 (pc' := 214) rfl (Nat.le_of_ble_eq_true rfl) (Nat.le_of_ble_eq_true rfl) (fun h124 hM125 g127 => ?_)
        have f126 := mF.tr f118 g127
        refine am_steps ok_Mo_comes 2 (x' := (94, [some (.ref 22), some (.int v1), some (.int (v2 + 1)), none], [], h124, 0, 0)) rfl (Nat.le_of_ble_eq_true rfl) (Nat.le_of_ble_eq_true rfl) ?_
        exact ih v1 (v2 + 1) (mA (mB (mA (mA (mA s 50 j68 q57) 51 j68 q75) 52 j68 q90) 53 j68 q105) 54 j68 (am_bn 3 u120)) h124 hM125 f126 q hd kk
      clear hB123; have hd := hA122; clear hA122
      refine am_if (fun hc128 => ?_) (fun hc128 => ?_)
      · rw [if_pos hc128] at hd
        refine am_steps ok_Mo_comes 1 (x' := (213, [some (.ref 22), some (.int v1), some (.int v2), some (.int (17 + (26 * v2)))], [.int 0, .int ((4 * v1) + v2), .ref 54], h116, 0, 0)) rfl (Nat.le_of_ble_eq_true rfl) (Nat.le_of_ble_eq_true rfl) ?_
        refine am_drop 3 ?_
        cases hd; exact K121 
      · rw [if_neg hc128] at hd
        refine am_steps ok_Mo_comes 2 (x' := (213, [some (.ref 22), some (.int v1), some (.int v2), some (.int (17 + (26 * v2)))], [.int 1, .int ((4 * v1) + v2), .ref 54], h116, 0, 0)) rfl (Nat.le_of_ble_eq_true rfl) (Nat.le_of_ble_eq_true rfl) ?_
        refine am_drop 3 ?_
        cases hd; exact K121 
def d_Mo_comes  (s : mS) : Option (mS) := (am_ix (s.1 31) 250).bind fun j5 => ((d_Mo_packed 7 8 (mA (mI s 31 ((s.1 31) + 1)) 43 j5 (s.1 5))).bind fun q12 => ((am_ix 15 400).bind fun j27 => ((am_ix 16 400).bind fun j34 => ((l_Mo_comes_94 100000 (s.1 31) 0 (mB (mA (mA (mA (mA (mB (mA (mI s 31 ((s.1 31) + 1)) 43 j5 (s.1 5)) 46 j5 q12) 44 j5 ((s.2.2.1 24 j27) - 48)) 45 j5 ((s.2.2.1 24 j34) - 48)) 48 j5 (am_bn 3 0)) 49 j5 (am_bn 3 0)) 47 j5 0)).bind fun q129 => ((d_Mo_queue (s.1 31) q129).bind fun q135 => (some q135))))))
set_option maxHeartbeats 4000000 in
set_option maxRecDepth 100000 in
theorem k_Mo_comes  (s : mS) (h0 : am_H) (hM : RM s h0) (q : mS) (hd : d_Mo_comes  s = some q) : am_Me am_Pr none 2 49 0 0 75 [.ref 22] h0 (mQv q h0) := by
  refine am_enter (d := hd_Mo_comes) rfl (by decide +kernel) (Nat.le_of_ble_eq_true rfl) ?_
  show am_S _ _ _ _ _ _ _ (0, [some (.ref 22), none, none, none], [], h0, 0, 0) _
  unfold d_Mo_comes at hd
  refine am_steps ok_Mo_comes 1 (x' := (1, [some (.ref 22), none, none, none], [.ref 22], h0, 0, 0)) rfl (Nat.le_of_ble_eq_true rfl) (Nat.le_of_ble_eq_true rfl) ?_
  refine mr_get ok_Mo_comes rfl hM (v := .int (s.1 31)) rfl (pc' := 4) rfl (Nat.le_of_ble_eq_true rfl) (Nat.le_of_ble_eq_true rfl) ?_
  refine am_steps ok_Mo_comes 3 (x' := (7, [some (.ref 22), some (.int (s.1 31)), none, none], [.ref 22, .ref 22], h0, 0, 0)) rfl (Nat.le_of_ble_eq_true rfl) (Nat.le_of_ble_eq_true rfl) ?_
  refine mr_get ok_Mo_comes rfl hM (v := .int (s.1 31)) rfl (pc' := 10) rfl (Nat.le_of_ble_eq_true rfl) (Nat.le_of_ble_eq_true rfl) ?_
  refine am_steps ok_Mo_comes 2 (x' := (12, [some (.ref 22), some (.int (s.1 31)), none, none], [.int ((s.1 31) + 1), .ref 22], h0, 0, 0)) rfl (Nat.le_of_ble_eq_true rfl) (Nat.le_of_ble_eq_true rfl) ?_
  refine mr_put ok_Mo_comes rfl hM (by decide) rfl (s' := (mI s 31 ((s.1 31) + 1))) (mfs_31 _ _) rfl (pc' := 15) rfl (Nat.le_of_ble_eq_true rfl) (Nat.le_of_ble_eq_true rfl) (fun h1 hM2 g4 => ?_)
  have f3 := mF.tr (mF.rf) g4
  refine am_steps ok_Mo_comes 1 (x' := (16, [some (.ref 22), some (.int (s.1 31)), none, none], [.ref 22], h1, 0, 0)) rfl (Nat.le_of_ble_eq_true rfl) (Nat.le_of_ble_eq_true rfl) ?_
  refine mr_get ok_Mo_comes rfl hM2 (v := .ref 43) rfl (pc' := 19) rfl (Nat.le_of_ble_eq_true rfl) (Nat.le_of_ble_eq_true rfl) ?_
  refine am_steps ok_Mo_comes 2 (x' := (21, [some (.ref 22), some (.int (s.1 31)), none, none], [.ref 22, .int (s.1 31), .ref 43], h1, 0, 0)) rfl (Nat.le_of_ble_eq_true rfl) (Nat.le_of_ble_eq_true rfl) ?_
  refine mr_get ok_Mo_comes rfl hM2 (v := .int (s.1 5)) rfl (pc' := 24) rfl (Nat.le_of_ble_eq_true rfl) (Nat.le_of_ble_eq_true rfl) ?_
  obtain ⟨j5, hx6, hd7⟩ := Option.bind_eq_some_iff.mp hd; clear hd; have hd := hd7; clear hd7
  refine mr_iast ok_Mo_comes rfl hM2 (N := 250) (by decide) hx6 (pc' := 25) rfl (Nat.le_of_ble_eq_true rfl) (Nat.le_of_ble_eq_true rfl) (fun h8 hM9 g11 => ?_)
  have f10 := mF.tr f3 g11
  refine am_steps ok_Mo_comes 1 (x' := (26, [some (.ref 22), some (.int (s.1 31)), none, none], [.ref 22], h8, 0, 0)) rfl (Nat.le_of_ble_eq_true rfl) (Nat.le_of_ble_eq_true rfl) ?_
  refine mr_get ok_Mo_comes rfl hM9 (v := .ref 46) rfl (pc' := 29) rfl (Nat.le_of_ble_eq_true rfl) (Nat.le_of_ble_eq_true rfl) ?_
  refine am_steps ok_Mo_comes 4 (x' := (35, [some (.ref 22), some (.int (s.1 31)), none, none], [.int 8, .int 7, .ref 22, .int (s.1 31), .ref 46], h8, 0, 0)) rfl (Nat.le_of_ble_eq_true rfl) (Nat.le_of_ble_eq_true rfl) ?_
  obtain ⟨q12, hq13, hd14⟩ := Option.bind_eq_some_iff.mp hd; clear hd; have hd := hd14; clear hd14
  refine ar_cv ok_Mo_comes hk_Mo_packed rfl rfl (As := [.int 7, .int 8]) (ad := 22) (rest := [.int (s.1 31), .ref 46]) rfl rfl hM9.1 (Nat.le_of_ble_eq_true rfl) (k_Mo_packed 7 8 (mA (mI s 31 ((s.1 31) + 1)) 43 j5 (s.1 5)) h8 hM9 q12 hq13) (Nat.le_of_ble_eq_true rfl) (Nat.le_of_ble_eq_true rfl) (Nat.le_of_ble_eq_true rfl) (Nat.le_of_ble_eq_true rfl) (pc' := 38) rfl (fun r15 h17 z16 => ?_)
  obtain ⟨z21, z22⟩ := z16; subst z21; rw [z22]
  show am_S _ _ _ _ _ _ _ (38, [some (.ref 22), some (.int (s.1 31)), none, none], [.long q12, .int (s.1 31), .ref 46], h8, 0, 0) _
  refine mr_last ok_Mo_comes rfl hM9 (N := 250) (by decide) hx6 (pc' := 39) rfl (Nat.le_of_ble_eq_true rfl) (Nat.le_of_ble_eq_true rfl) (fun h23 hM24 g26 => ?_)
  have f25 := mF.tr f10 g26
  refine am_steps ok_Mo_comes 1 (x' := (40, [some (.ref 22), some (.int (s.1 31)), none, none], [.ref 22], h23, 0, 0)) rfl (Nat.le_of_ble_eq_true rfl) (Nat.le_of_ble_eq_true rfl) ?_
  refine mr_get ok_Mo_comes rfl hM24 (v := .ref 44) rfl (pc' := 43) rfl (Nat.le_of_ble_eq_true rfl) (Nat.le_of_ble_eq_true rfl) ?_
  refine am_steps ok_Mo_comes 2 (x' := (45, [some (.ref 22), some (.int (s.1 31)), none, none], [.ref 22, .int (s.1 31), .ref 44], h23, 0, 0)) rfl (Nat.le_of_ble_eq_true rfl) (Nat.le_of_ble_eq_true rfl) ?_
  refine mr_get ok_Mo_comes rfl hM24 (v := .ref 24) rfl (pc' := 48) rfl (Nat.le_of_ble_eq_true rfl) (Nat.le_of_ble_eq_true rfl) ?_
  refine am_steps ok_Mo_comes 1 (x' := (50, [some (.ref 22), some (.int (s.1 31)), none, none], [.int 15, .ref 24, .int (s.1 31), .ref 44], h23, 0, 0)) rfl (Nat.le_of_ble_eq_true rfl) (Nat.le_of_ble_eq_true rfl) ?_
  obtain ⟨j27, hx28, hd29⟩ := Option.bind_eq_some_iff.mp hd; clear hd; have hd := hd29; clear hd29
  refine mr_bald ok_Mo_comes rfl hM24 (N := 400) (by decide) (Or.inl rfl) hx28 (pc' := 51) rfl (Nat.le_of_ble_eq_true rfl) (Nat.le_of_ble_eq_true rfl) ?_
  show am_S _ _ _ _ _ _ _ (51, [some (.ref 22), some (.int (s.1 31)), none, none], [.int (s.2.2.1 24 j27), .int (s.1 31), .ref 44], h23, 0, 0) _
  refine am_steps ok_Mo_comes 2 (x' := (54, [some (.ref 22), some (.int (s.1 31)), none, none], [.int ((s.2.2.1 24 j27) - 48), .int (s.1 31), .ref 44], h23, 0, 0)) rfl (Nat.le_of_ble_eq_true rfl) (Nat.le_of_ble_eq_true rfl) ?_
  refine mr_iast ok_Mo_comes rfl hM24 (N := 250) (by decide) hx6 (pc' := 55) rfl (Nat.le_of_ble_eq_true rfl) (Nat.le_of_ble_eq_true rfl) (fun h30 hM31 g33 => ?_)
  have f32 := mF.tr f25 g33
  refine am_steps ok_Mo_comes 1 (x' := (56, [some (.ref 22), some (.int (s.1 31)), none, none], [.ref 22], h30, 0, 0)) rfl (Nat.le_of_ble_eq_true rfl) (Nat.le_of_ble_eq_true rfl) ?_
  refine mr_get ok_Mo_comes rfl hM31 (v := .ref 45) rfl (pc' := 59) rfl (Nat.le_of_ble_eq_true rfl) (Nat.le_of_ble_eq_true rfl) ?_
  refine am_steps ok_Mo_comes 2 (x' := (61, [some (.ref 22), some (.int (s.1 31)), none, none], [.ref 22, .int (s.1 31), .ref 45], h30, 0, 0)) rfl (Nat.le_of_ble_eq_true rfl) (Nat.le_of_ble_eq_true rfl) ?_
  refine mr_get ok_Mo_comes rfl hM31 (v := .ref 24) rfl (pc' := 64) rfl (Nat.le_of_ble_eq_true rfl) (Nat.le_of_ble_eq_true rfl) ?_
  refine am_steps ok_Mo_comes 1 (x' := (66, [some (.ref 22), some (.int (s.1 31)), none, none], [.int 16, .ref 24, .int (s.1 31), .ref 45], h30, 0, 0)) rfl (Nat.le_of_ble_eq_true rfl) (Nat.le_of_ble_eq_true rfl) ?_
  obtain ⟨j34, hx35, hd36⟩ := Option.bind_eq_some_iff.mp hd; clear hd; have hd := hd36; clear hd36
  refine mr_bald ok_Mo_comes rfl hM31 (N := 400) (by decide) (Or.inl rfl) hx35 (pc' := 67) rfl (Nat.le_of_ble_eq_true rfl) (Nat.le_of_ble_eq_true rfl) ?_
  show am_S _ _ _ _ _ _ _ (67, [some (.ref 22), some (.int (s.1 31)), none, none], [.int (s.2.2.1 24 j34), .int (s.1 31), .ref 45], h30, 0, 0) _
  refine am_steps ok_Mo_comes 2 (x' := (70, [some (.ref 22), some (.int (s.1 31)), none, none], [.int ((s.2.2.1 24 j34) - 48), .int (s.1 31), .ref 45], h30, 0, 0)) rfl (Nat.le_of_ble_eq_true rfl) (Nat.le_of_ble_eq_true rfl) ?_
  refine mr_iast ok_Mo_comes rfl hM31 (N := 250) (by decide) hx6 (pc' := 71) rfl (Nat.le_of_ble_eq_true rfl) (Nat.le_of_ble_eq_true rfl) (fun h37 hM38 g40 => ?_)
  have f39 := mF.tr f32 g40
  refine am_steps ok_Mo_comes 1 (x' := (72, [some (.ref 22), some (.int (s.1 31)), none, none], [.ref 22], h37, 0, 0)) rfl (Nat.le_of_ble_eq_true rfl) (Nat.le_of_ble_eq_true rfl) ?_
  refine mr_get ok_Mo_comes rfl hM38 (v := .ref 48) rfl (pc' := 75) rfl (Nat.le_of_ble_eq_true rfl) (Nat.le_of_ble_eq_true rfl) ?_
  refine am_steps ok_Mo_comes 2 (x' := (77, [some (.ref 22), some (.int (s.1 31)), none, none], [.int 0, .int (s.1 31), .ref 48], h37, 0, 0)) rfl (Nat.le_of_ble_eq_true rfl) (Nat.le_of_ble_eq_true rfl) ?_
  refine mr_bast ok_Mo_comes rfl hM38 (N := 250) (by decide) (Or.inr rfl) hx6 (pc' := 78) rfl (Nat.le_of_ble_eq_true rfl) (Nat.le_of_ble_eq_true rfl) (fun h41 hM42 g44 => ?_)
  have f43 := mF.tr f39 g44
  refine am_steps ok_Mo_comes 1 (x' := (79, [some (.ref 22), some (.int (s.1 31)), none, none], [.ref 22], h41, 0, 0)) rfl (Nat.le_of_ble_eq_true rfl) (Nat.le_of_ble_eq_true rfl) ?_
  refine mr_get ok_Mo_comes rfl hM42 (v := .ref 49) rfl (pc' := 82) rfl (Nat.le_of_ble_eq_true rfl) (Nat.le_of_ble_eq_true rfl) ?_
  refine am_steps ok_Mo_comes 2 (x' := (84, [some (.ref 22), some (.int (s.1 31)), none, none], [.int 0, .int (s.1 31), .ref 49], h41, 0, 0)) rfl (Nat.le_of_ble_eq_true rfl) (Nat.le_of_ble_eq_true rfl) ?_
  refine mr_bast ok_Mo_comes rfl hM42 (N := 250) (by decide) (Or.inr rfl) hx6 (pc' := 85) rfl (Nat.le_of_ble_eq_true rfl) (Nat.le_of_ble_eq_true rfl) (fun h45 hM46 g48 => ?_)
  have f47 := mF.tr f43 g48
  refine am_steps ok_Mo_comes 1 (x' := (86, [some (.ref 22), some (.int (s.1 31)), none, none], [.ref 22], h45, 0, 0)) rfl (Nat.le_of_ble_eq_true rfl) (Nat.le_of_ble_eq_true rfl) ?_
  refine mr_get ok_Mo_comes rfl hM46 (v := .ref 47) rfl (pc' := 89) rfl (Nat.le_of_ble_eq_true rfl) (Nat.le_of_ble_eq_true rfl) ?_
  refine am_steps ok_Mo_comes 2 (x' := (91, [some (.ref 22), some (.int (s.1 31)), none, none], [.long 0, .int (s.1 31), .ref 47], h45, 0, 0)) rfl (Nat.le_of_ble_eq_true rfl) (Nat.le_of_ble_eq_true rfl) ?_
  refine mr_last ok_Mo_comes rfl hM46 (N := 250) (by decide) hx6 (pc' := 92) rfl (Nat.le_of_ble_eq_true rfl) (Nat.le_of_ble_eq_true rfl) (fun h49 hM50 g52 => ?_)
  have f51 := mF.tr f47 g52
  refine am_steps ok_Mo_comes 2 (x' := (94, [some (.ref 22), some (.int (s.1 31)), some (.int 0), none], [], h49, 0, 0)) rfl (Nat.le_of_ble_eq_true rfl) (Nat.le_of_ble_eq_true rfl) ?_
  obtain ⟨q129, hq130, hd131⟩ := Option.bind_eq_some_iff.mp hd; clear hd; have hd := hd131; clear hd131
  refine L_Mo_comes_94 h0 100000 (s.1 31) 0 (mB (mA (mA (mA (mA (mB (mA (mI s 31 ((s.1 31) + 1)) 43 j5 (s.1 5)) 46 j5 q12) 44 j5 ((s.2.2.1 24 j27) - 48)) 45 j5 ((s.2.2.1 24 j34) - 48)) 48 j5 (am_bn 3 0)) 49 j5 (am_bn 3 0)) 47 j5 0) h49 hM50 f51 q129 hq130 (fun h132 hM133 f134 => ?_)
  show am_S _ _ _ _ _ _ _ (220, [some (.ref 22), some (.int (s.1 31)), none, none], [], h132, 0, 0) _
  refine am_steps ok_Mo_comes 2 (x' := (222, [some (.ref 22), some (.int (s.1 31)), none, none], [.int (s.1 31), .ref 22], h132, 0, 0)) rfl (Nat.le_of_ble_eq_true rfl) (Nat.le_of_ble_eq_true rfl) ?_
  obtain ⟨q135, hq136, hd137⟩ := Option.bind_eq_some_iff.mp hd; clear hd; have hd := hd137; clear hd137
  refine ar_cv ok_Mo_comes hk_Mo_queue rfl rfl (As := [.int (s.1 31)]) (ad := 22) (rest := []) rfl rfl hM133.1 (Nat.le_of_ble_eq_true rfl) (k_Mo_queue (s.1 31) q129 h132 hM133 q135 hq136) (Nat.le_of_ble_eq_true rfl) (Nat.le_of_ble_eq_true rfl) (Nat.le_of_ble_eq_true rfl) (Nat.le_of_ble_eq_true rfl) (pc' := 225) rfl (fun r138 h140 z139 => ?_)
  obtain ⟨rfl, hM141, g143⟩ := z139
  have f142 := mF.tr f134 g143
  show am_S _ _ _ _ _ _ _ (225, [some (.ref 22), some (.int (s.1 31)), none, none], [], h140, 0, 0) _
  cases hd; exact am_ret ok_Mo_comes rfl (Nat.le_of_ble_eq_true rfl) (Nat.le_of_ble_eq_true rfl) ⟨rfl, hM141, f142⟩
def l_Mo_agrees_2 : Nat → Int32 → Int32 → mS → Option (mS)
  | 0, _, _, _ => none
  | fu + 1, v1, v2, s => (am_ix v1 250).bind fun j1 => (if ((s.2.2.1 45 j1) : Int32) ≤ v2 then (some s) else ((am_ix ((4 * v1) + v2) 1000).bind fun j5 => ((if ¬ ((s.2.2.1 50 j5) : Int32) = (s.1 5) then (some s) else (some (mA s 54 j5 (am_bn 3 1)))).bind fun (u8 : mS) => (l_Mo_agrees_2 fu v1 (v2 + 1) u8))))
set_option maxHeartbeats 4000000 in
set_option maxRecDepth 100000 in
theorem L_Mo_agrees_2 {Q : Option Value → am_H → Prop} (h0 : am_H) : ∀ (fu : Nat) (v1 : Int32) (v2 : Int32) (s : mS) (h : am_H), RM s h → mF h0 h → ∀ q : mS, l_Mo_agrees_2 fu v1 v2 s = some q → (∀ h' : am_H, RM q h' → mF h0 h' → am_S am_Pr none 1 23 0 0 76 (46, [some (.ref 22), some (.int v1), none], [], h', 0, 0) Q) → am_S am_Pr none 1 23 0 0 76 (2, [some (.ref 22), some (.int v1), some (.int v2)], [], h, 0, 0) Q := by
  intro fu
  induction fu with
  | zero => intro v1 v2 s h hM f q hd; cases hd
  | succ fu ih =>
    intro v1 v2 s h hM f q hd kk
    unfold l_Mo_agrees_2 at hd
    refine am_steps ok_Mo_agrees 2 (x' := (4, [some (.ref 22), some (.int v1), some (.int v2)], [.ref 22, .int v2], h, 0, 0)) rfl (Nat.le_of_ble_eq_true rfl) (Nat.le_of_ble_eq_true rfl) ?_
    refine mr_get ok_Mo_agrees rfl hM (v := .ref 45) rfl (pc' := 7) rfl (Nat.le_of_ble_eq_true rfl) (Nat.le_of_ble_eq_true rfl) ?_
    refine am_steps ok_Mo_agrees 1 (x' := (8, [some (.ref 22), some (.int v1), some (.int v2)], [.int v1, .ref 45, .int v2], h, 0, 0)) rfl (Nat.le_of_ble_eq_true rfl) (Nat.le_of_ble_eq_true rfl) ?_
    obtain ⟨j1, hx2, hd3⟩ := Option.bind_eq_some_iff.mp hd; clear hd; have hd := hd3; clear hd3
    refine mr_iald ok_Mo_agrees rfl hM (N := 250) (by decide) hx2 (pc' := 9) rfl (Nat.le_of_ble_eq_true rfl) (Nat.le_of_ble_eq_true rfl) ?_
    refine am_steps ok_Mo_agrees 1 (x' := (if ((s.2.2.1 45 j1) : Int32) ≤ v2 then 46 else 12, [some (.ref 22), some (.int v1), some (.int v2)], [], h, 0, 0)) rfl (Nat.le_of_ble_eq_true rfl) (Nat.le_of_ble_eq_true rfl) ?_
    refine am_if (fun hc4 => ?_) (fun hc4 => ?_)
    · rw [if_pos hc4] at hd
      refine am_drop 2 ?_
      cases hd; exact kk h hM f
    · rw [if_neg hc4] at hd
      refine am_steps ok_Mo_agrees 1 (x' := (13, [some (.ref 22), some (.int v1), some (.int v2)], [.ref 22], h, 0, 0)) rfl (Nat.le_of_ble_eq_true rfl) (Nat.le_of_ble_eq_true rfl) ?_
      refine mr_get ok_Mo_agrees rfl hM (v := .ref 50) rfl (pc' := 16) rfl (Nat.le_of_ble_eq_true rfl) (Nat.le_of_ble_eq_true rfl) ?_
      refine am_steps ok_Mo_agrees 5 (x' := (21, [some (.ref 22), some (.int v1), some (.int v2)], [.int ((4 * v1) + v2), .ref 50], h, 0, 0)) rfl (Nat.le_of_ble_eq_true rfl) (Nat.le_of_ble_eq_true rfl) ?_
      obtain ⟨j5, hx6, hd7⟩ := Option.bind_eq_some_iff.mp hd; clear hd; have hd := hd7; clear hd7
      refine mr_iald ok_Mo_agrees rfl hM (N := 1000) (by decide) hx6 (pc' := 22) rfl (Nat.le_of_ble_eq_true rfl) (Nat.le_of_ble_eq_true rfl) ?_
      refine am_steps ok_Mo_agrees 1 (x' := (23, [some (.ref 22), some (.int v1), some (.int v2)], [.ref 22, .int (s.2.2.1 50 j5)], h, 0, 0)) rfl (Nat.le_of_ble_eq_true rfl) (Nat.le_of_ble_eq_true rfl) ?_
      refine mr_get ok_Mo_agrees rfl hM (v := .int (s.1 5)) rfl (pc' := 26) rfl (Nat.le_of_ble_eq_true rfl) (Nat.le_of_ble_eq_true rfl) ?_
      refine am_steps ok_Mo_agrees 1 (x' := (if ¬ ((s.2.2.1 50 j5) : Int32) = (s.1 5) then 40 else 29, [some (.ref 22), some (.int v1), some (.int v2)], [], h, 0, 0)) rfl (Nat.le_of_ble_eq_true rfl) (Nat.le_of_ble_eq_true rfl) ?_
      obtain ⟨u8, hA10, hB11⟩ := Option.bind_eq_some_iff.mp hd; clear hd
      have K9 : ∀ h' : am_H, RM u8 h' → mF h0 h' → am_S am_Pr none 1 23 0 0 76 (40, [some (.ref 22), some (.int v1), some (.int v2)], [], h', 0, 0) Q := by
        have hd := hB11
        intro h12 hM13 f14
        refine am_steps ok_Mo_agrees 2 (x' := (2, [some (.ref 22), some (.int v1), some (.int (v2 + 1))], [], h12, 0, 0)) rfl (Nat.le_of_ble_eq_true rfl) (Nat.le_of_ble_eq_true rfl) ?_
        exact ih v1 (v2 + 1) u8 h12 hM13 f14 q hd kk
      clear hB11; have hd := hA10; clear hA10
      refine am_if (fun hc15 => ?_) (fun hc15 => ?_)
      · rw [if_pos hc15] at hd
        cases hd; exact K9 h hM f
      · rw [if_neg hc15] at hd
        refine am_steps ok_Mo_agrees 1 (x' := (30, [some (.ref 22), some (.int v1), some (.int v2)], [.ref 22], h, 0, 0)) rfl (Nat.le_of_ble_eq_true rfl) (Nat.le_of_ble_eq_true rfl) ?_
        refine mr_get ok_Mo_agrees rfl hM (v := .ref 54) rfl (pc' := 33) rfl (Nat.le_of_ble_eq_true rfl) (Nat.le_of_ble_eq_true rfl) ?_
        refine am_steps ok_Mo_agrees 6 (x' := (39, [some (.ref 22), some (.int v1), some (.int v2)], [.int 1, .int ((4 * v1) + v2), .ref 54], h, 0, 0)) rfl (Nat.le_of_ble_eq_true rfl) (Nat.le_of_ble_eq_true rfl) ?_
        refine mr_bast ok_Mo_agrees rfl hM (N := 1000) (by decide) (Or.inr rfl) hx6 (pc' := 40) rfl (Nat.le_of_ble_eq_true rfl) (Nat.le_of_ble_eq_true rfl) (fun h16 hM17 g19 => ?_)
        have f18 := mF.tr f g19
        cases hd; exact K9 h16 hM17 f18
def d_Mo_agrees (a : Int32) (s : mS) : Option (mS) := (l_Mo_agrees_2 100000 a 0 s).bind fun q20 => ((d_Mo_queue a q20).bind fun q26 => (some q26))
set_option maxHeartbeats 4000000 in
set_option maxRecDepth 100000 in
theorem k_Mo_agrees (a : Int32) (s : mS) (h0 : am_H) (hM : RM s h0) (q : mS) (hd : d_Mo_agrees a s = some q) : am_Me am_Pr none 1 23 0 0 76 [.ref 22, .int a] h0 (mQv q h0) := by
  refine am_enter (d := hd_Mo_agrees) rfl (by decide +kernel) (Nat.le_of_ble_eq_true rfl) ?_
  show am_S _ _ _ _ _ _ _ (0, [some (.ref 22), some (.int a), none], [], h0, 0, 0) _
  unfold d_Mo_agrees at hd
  refine am_steps ok_Mo_agrees 2 (x' := (2, [some (.ref 22), some (.int a), some (.int 0)], [], h0, 0, 0)) rfl (Nat.le_of_ble_eq_true rfl) (Nat.le_of_ble_eq_true rfl) ?_
  obtain ⟨q20, hq21, hd22⟩ := Option.bind_eq_some_iff.mp hd; clear hd; have hd := hd22; clear hd22
  refine L_Mo_agrees_2 h0 100000 a 0 s h0 hM (mF.rf) q20 hq21 (fun h23 hM24 f25 => ?_)
  show am_S _ _ _ _ _ _ _ (46, [some (.ref 22), some (.int a), none], [], h23, 0, 0) _
  refine am_steps ok_Mo_agrees 2 (x' := (48, [some (.ref 22), some (.int a), none], [.int a, .ref 22], h23, 0, 0)) rfl (Nat.le_of_ble_eq_true rfl) (Nat.le_of_ble_eq_true rfl) ?_
  obtain ⟨q26, hq27, hd28⟩ := Option.bind_eq_some_iff.mp hd; clear hd; have hd := hd28; clear hd28
  refine ar_cv ok_Mo_agrees hk_Mo_queue rfl rfl (As := [.int a]) (ad := 22) (rest := []) rfl rfl hM24.1 (Nat.le_of_ble_eq_true rfl) (k_Mo_queue a q20 h23 hM24 q26 hq27) (Nat.le_of_ble_eq_true rfl) (Nat.le_of_ble_eq_true rfl) (Nat.le_of_ble_eq_true rfl) (Nat.le_of_ble_eq_true rfl) (pc' := 51) rfl (fun r29 h31 z30 => ?_)
  obtain ⟨rfl, hM32, g34⟩ := z30
  have f33 := mF.tr f25 g34
  show am_S _ _ _ _ _ _ _ (51, [some (.ref 22), some (.int a), none], [], h31, 0, 0) _
  cases hd; exact am_ret ok_Mo_agrees rfl (Nat.le_of_ble_eq_true rfl) (Nat.le_of_ble_eq_true rfl) ⟨rfl, hM32, f33⟩
def d_Mo_changes (a : Int32) (s : mS) : Option (mS) := (am_ix 23 400).bind fun j1 => ((am_ix a 250).bind fun j4 => (if ¬ ((s.2.2.1 48 j4) : Int32) = 0 then (some (mB (mL (mA s 44 j4 ((s.2.2.1 24 j1) - 48)) 45 ((s.2.1 45) + 1)) 47 j4 ((s.2.1 45) + 1))) else (some (mA s 44 j4 ((s.2.2.1 24 j1) - 48)))))
set_option maxHeartbeats 4000000 in
set_option maxRecDepth 100000 in
theorem k_Mo_changes (a : Int32) (s : mS) (h0 : am_H) (hM : RM s h0) (q : mS) (hd : d_Mo_changes a s = some q) : am_Me am_Pr none 0 0 0 0 79 [.ref 22, .int a] h0 (mQv q h0) := by
  refine am_enter (d := hd_Mo_changes) rfl (by decide +kernel) (Nat.le_of_ble_eq_true rfl) ?_
  show am_S _ _ _ _ _ _ _ (0, [some (.ref 22), some (.int a)], [], h0, 0, 0) _
  unfold d_Mo_changes at hd
  refine am_steps ok_Mo_changes 1 (x' := (1, [some (.ref 22), some (.int a)], [.ref 22], h0, 0, 0)) rfl (Nat.le_of_ble_eq_true rfl) (Nat.le_of_ble_eq_true rfl) ?_
  refine mr_get ok_Mo_changes rfl hM (v := .ref 44) rfl (pc' := 4) rfl (Nat.le_of_ble_eq_true rfl) (Nat.le_of_ble_eq_true rfl) ?_
  refine am_steps ok_Mo_changes 2 (x' := (6, [some (.ref 22), some (.int a)], [.ref 22, .int a, .ref 44], h0, 0, 0)) rfl (Nat.le_of_ble_eq_true rfl) (Nat.le_of_ble_eq_true rfl) ?_
  refine mr_get ok_Mo_changes rfl hM (v := .ref 24) rfl (pc' := 9) rfl (Nat.le_of_ble_eq_true rfl) (Nat.le_of_ble_eq_true rfl) ?_
  refine am_steps ok_Mo_changes 1 (x' := (11, [some (.ref 22), some (.int a)], [.int 23, .ref 24, .int a, .ref 44], h0, 0, 0)) rfl (Nat.le_of_ble_eq_true rfl) (Nat.le_of_ble_eq_true rfl) ?_
  obtain ⟨j1, hx2, hd3⟩ := Option.bind_eq_some_iff.mp hd; clear hd; have hd := hd3; clear hd3
  refine mr_bald ok_Mo_changes rfl hM (N := 400) (by decide) (Or.inl rfl) hx2 (pc' := 12) rfl (Nat.le_of_ble_eq_true rfl) (Nat.le_of_ble_eq_true rfl) ?_
  refine am_steps ok_Mo_changes 2 (x' := (15, [some (.ref 22), some (.int a)], [.int ((s.2.2.1 24 j1) - 48), .int a, .ref 44], h0, 0, 0)) rfl (Nat.le_of_ble_eq_true rfl) (Nat.le_of_ble_eq_true rfl) ?_
  obtain ⟨j4, hx5, hd6⟩ := Option.bind_eq_some_iff.mp hd; clear hd; have hd := hd6; clear hd6
  refine mr_iast ok_Mo_changes rfl hM (N := 250) (by decide) hx5 (pc' := 16) rfl (Nat.le_of_ble_eq_true rfl) (Nat.le_of_ble_eq_true rfl) (fun h7 hM8 g10 => ?_)
  have f9 := mF.tr (mF.rf) g10
  refine am_steps ok_Mo_changes 1 (x' := (17, [some (.ref 22), some (.int a)], [.ref 22], h7, 0, 0)) rfl (Nat.le_of_ble_eq_true rfl) (Nat.le_of_ble_eq_true rfl) ?_
  refine mr_get ok_Mo_changes rfl hM8 (v := .ref 48) rfl (pc' := 20) rfl (Nat.le_of_ble_eq_true rfl) (Nat.le_of_ble_eq_true rfl) ?_
  refine am_steps ok_Mo_changes 1 (x' := (21, [some (.ref 22), some (.int a)], [.int a, .ref 48], h7, 0, 0)) rfl (Nat.le_of_ble_eq_true rfl) (Nat.le_of_ble_eq_true rfl) ?_
  refine mr_bald ok_Mo_changes rfl hM8 (N := 250) (by decide) (Or.inr rfl) hx5 (pc' := 22) rfl (Nat.le_of_ble_eq_true rfl) (Nat.le_of_ble_eq_true rfl) ?_
  show am_S _ _ _ _ _ _ _ (22, [some (.ref 22), some (.int a)], [.int (s.2.2.1 48 j4)], h7, 0, 0) _
  refine am_steps ok_Mo_changes 1 (x' := (if ¬ ((s.2.2.1 48 j4) : Int32) = 0 then 26 else 25, [some (.ref 22), some (.int a)], [], h7, 0, 0)) rfl (Nat.le_of_ble_eq_true rfl) (Nat.le_of_ble_eq_true rfl) ?_
  refine am_if (fun hc11 => ?_) (fun hc11 => ?_)
  · rw [if_pos hc11] at hd
    refine am_steps ok_Mo_changes 2 (x' := (28, [some (.ref 22), some (.int a)], [.ref 22, .ref 22], h7, 0, 0)) rfl (Nat.le_of_ble_eq_true rfl) (Nat.le_of_ble_eq_true rfl) ?_
    refine mr_get ok_Mo_changes rfl hM8 (v := .long (s.2.1 45)) rfl (pc' := 31) rfl (Nat.le_of_ble_eq_true rfl) (Nat.le_of_ble_eq_true rfl) ?_
    refine am_steps ok_Mo_changes 2 (x' := (33, [some (.ref 22), some (.int a)], [.long ((s.2.1 45) + 1), .ref 22], h7, 0, 0)) rfl (Nat.le_of_ble_eq_true rfl) (Nat.le_of_ble_eq_true rfl) ?_
    refine mr_put ok_Mo_changes rfl hM8 (by decide) rfl (s' := (mL (mA s 44 j4 ((s.2.2.1 24 j1) - 48)) 45 ((s.2.1 45) + 1))) (mfs_45 _ _) rfl (pc' := 36) rfl (Nat.le_of_ble_eq_true rfl) (Nat.le_of_ble_eq_true rfl) (fun h12 hM13 g15 => ?_)
    have f14 := mF.tr f9 g15
    refine am_steps ok_Mo_changes 1 (x' := (37, [some (.ref 22), some (.int a)], [.ref 22], h12, 0, 0)) rfl (Nat.le_of_ble_eq_true rfl) (Nat.le_of_ble_eq_true rfl) ?_
    refine mr_get ok_Mo_changes rfl hM13 (v := .ref 47) rfl (pc' := 40) rfl (Nat.le_of_ble_eq_true rfl) (Nat.le_of_ble_eq_true rfl) ?_
    refine am_steps ok_Mo_changes 2 (x' := (42, [some (.ref 22), some (.int a)], [.ref 22, .int a, .ref 47], h12, 0, 0)) rfl (Nat.le_of_ble_eq_true rfl) (Nat.le_of_ble_eq_true rfl) ?_
    refine mr_get ok_Mo_changes rfl hM13 (v := .long ((s.2.1 45) + 1)) rfl (pc' := 45) rfl (Nat.le_of_ble_eq_true rfl) (Nat.le_of_ble_eq_true rfl) ?_
    refine mr_last ok_Mo_changes rfl hM13 (N := 250) (by decide) hx5 (pc' := 46) rfl (Nat.le_of_ble_eq_true rfl) (Nat.le_of_ble_eq_true rfl) (fun h16 hM17 g19 => ?_)
    have f18 := mF.tr f14 g19
    cases hd; exact am_ret ok_Mo_changes rfl (Nat.le_of_ble_eq_true rfl) (Nat.le_of_ble_eq_true rfl) ⟨rfl, hM17, f18⟩
  · rw [if_neg hc11] at hd
    cases hd; exact am_ret ok_Mo_changes rfl (Nat.le_of_ble_eq_true rfl) (Nat.le_of_ble_eq_true rfl) ⟨rfl, hM8, f9⟩
