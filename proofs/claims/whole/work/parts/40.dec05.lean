/-! Methods of the reference as functions of its state. -/
def d_Mo_ownFault  (s : mS) : Option (Int32 × mS) := if (s.1 4) = 0 then ((d_Mo_memberAt 15 s).bind fun q3 => (if (q3 : Int32) < 0 then (if ¬ ((s.1 10) : Int32) = 256 then (some (0, s)) else (some (12, s))) else (some (8, s)))) else (if (s.1 4) = 1 then ((d_Mo_assetAt 15 s).bind fun q19 => (if (q19 : Int32) < 0 then (if ¬ ((s.1 15) : Int32) = 64 then (some (0, s)) else (some (12, s))) else (some (8, s)))) else (if (s.1 4) = 2 then ((d_Mo_priceFault  s).bind fun q35 => (some (q35.1, q35.2))) else (if (s.1 4) = 3 ∨ (s.1 4) = 4 then ((d_Mo_bankFault  s).bind fun q47 => (some (q47, s))) else (if (s.1 4) = 5 then ((d_Mo_legsFault  s).bind fun q61 => (some (q61, s))) else (if (s.1 4) = 6 then ((d_Mo_confirmFault  s).bind fun q75 => (some (q75, s))) else (if (s.1 4) = 7 ∨ (s.1 4) = 8 then ((d_Mo_packed 15 8 s).bind fun q89 => ((d_Mo_openOf (s.1 5) q89 s).bind fun q100 => (if (0 : Int32) ≤ q100 then (some (0, s)) else (some (11, s))))) else (if (s.1 4) = 9 then ((d_Mo_limitFault  s).bind fun q115 => (some (q115, s))) else (if (s.1 4) = 10 then ((d_Mo_memberAt 15 s).bind fun q129 => ((am_ix ((256 * (s.1 5)) + q129) 65536).bind fun j140 => (if (0 : Int32) ≤ (lg_cmp (s.2.2.2 38 j140) 0) then (some (0, s)) else (some (8, s))))) else (if (s.1 4) = 11 ∨ (s.1 4) = 12 then ((d_Mo_pledgeFault  s).bind fun q147 => (some (q147.1, q147.2))) else (some (0, s)))))))))))
set_option maxHeartbeats 4000000 in
set_option maxRecDepth 100000 in
theorem k_Mo_ownFault  (s : mS) (h0 : am_H) (hM : RM s h0) (q : Int32 × mS) (hd : d_Mo_ownFault  s = some q) : am_Me am_Pr none 4 108 0 0 41 [.ref 22] h0 (mQr (.int q.1) q.2 h0) := by
  refine am_enter (d := hd_Mo_ownFault) rfl (by decide +kernel) (Nat.le_of_ble_eq_true rfl) ?_
  show am_S _ _ _ _ _ _ _ (0, [some (.ref 22)], [], h0, 0, 0) _
  unfold d_Mo_ownFault at hd
  refine am_steps ok_Mo_ownFault 1 (x' := (1, [some (.ref 22)], [.ref 22], h0, 0, 0)) rfl (Nat.le_of_ble_eq_true rfl) (Nat.le_of_ble_eq_true rfl) ?_
  refine mr_get ok_Mo_ownFault rfl hM (v := .int (s.1 4)) rfl (pc' := 4) rfl (Nat.le_of_ble_eq_true rfl) (Nat.le_of_ble_eq_true rfl) ?_
  by_cases hc1 : (s.1 4) = 0
  · rw [if_pos hc1] at hd
    have KT2 : am_S am_Pr none 4 108 0 0 41 (72, [some (.ref 22)], [], h0, 0, 0) (mQr (.int q.1) q.2 h0) := by
      refine am_steps ok_Mo_ownFault 2 (x' := (75, [some (.ref 22)], [.int 15, .ref 22], h0, 0, 0)) rfl (Nat.le_of_ble_eq_true rfl) (Nat.le_of_ble_eq_true rfl) ?_
      obtain ⟨q3, hq4, hd5⟩ := Option.bind_eq_some_iff.mp hd; clear hd; have hd := hd5; clear hd5
      refine ar_cv ok_Mo_ownFault hk_Mo_memberAt rfl rfl (As := [.int 15]) (ad := 22) (rest := []) rfl rfl hM.1 (Nat.le_of_ble_eq_true rfl) (k_Mo_memberAt 15 s h0 hM q3 hq4) (Nat.le_of_ble_eq_true rfl) (Nat.le_of_ble_eq_true rfl) (Nat.le_of_ble_eq_true rfl) (Nat.le_of_ble_eq_true rfl) (pc' := 78) rfl (fun r6 h8 z7 => ?_)
      obtain ⟨z12, z13⟩ := z7; subst z12; rw [z13]
      show am_S _ _ _ _ _ _ _ (78, [some (.ref 22)], [.int q3], h0, 0, 0) _
      refine am_steps ok_Mo_ownFault 1 (x' := (if (q3 : Int32) < 0 then 86 else 81, [some (.ref 22)], [], h0, 0, 0)) rfl (Nat.le_of_ble_eq_true rfl) (Nat.le_of_ble_eq_true rfl) ?_
      refine am_if (fun hc14 => ?_) (fun hc14 => ?_)
      · rw [if_pos hc14] at hd
        refine am_steps ok_Mo_ownFault 1 (x' := (87, [some (.ref 22)], [.ref 22], h0, 0, 0)) rfl (Nat.le_of_ble_eq_true rfl) (Nat.le_of_ble_eq_true rfl) ?_
        refine mr_get ok_Mo_ownFault rfl hM (v := .int (s.1 10)) rfl (pc' := 90) rfl (Nat.le_of_ble_eq_true rfl) (Nat.le_of_ble_eq_true rfl) ?_
        refine am_steps ok_Mo_ownFault 2 (x' := (if ¬ ((s.1 10) : Int32) = 256 then 101 else 96, [some (.ref 22)], [], h0, 0, 0)) rfl (Nat.le_of_ble_eq_true rfl) (Nat.le_of_ble_eq_true rfl) ?_
        refine am_if (fun hc15 => ?_) (fun hc15 => ?_)
        · rw [if_pos hc15] at hd
          refine am_steps ok_Mo_ownFault 1 (x' := (102, [some (.ref 22)], [.int 0], h0, 0, 0)) rfl (Nat.le_of_ble_eq_true rfl) (Nat.le_of_ble_eq_true rfl) ?_
          cases hd; exact am_ret ok_Mo_ownFault rfl (Nat.le_of_ble_eq_true rfl) (Nat.le_of_ble_eq_true rfl) ⟨rfl, hM, (mF.rf)⟩
        · rw [if_neg hc15] at hd
          refine am_steps ok_Mo_ownFault 2 (x' := (102, [some (.ref 22)], [.int 12], h0, 0, 0)) rfl (Nat.le_of_ble_eq_true rfl) (Nat.le_of_ble_eq_true rfl) ?_
          cases hd; exact am_ret ok_Mo_ownFault rfl (Nat.le_of_ble_eq_true rfl) (Nat.le_of_ble_eq_true rfl) ⟨rfl, hM, (mF.rf)⟩
      · rw [if_neg hc14] at hd
        refine am_steps ok_Mo_ownFault 2 (x' := (102, [some (.ref 22)], [.int 8], h0, 0, 0)) rfl (Nat.le_of_ble_eq_true rfl) (Nat.le_of_ble_eq_true rfl) ?_
        cases hd; exact am_ret ok_Mo_ownFault rfl (Nat.le_of_ble_eq_true rfl) (Nat.le_of_ble_eq_true rfl) ⟨rfl, hM, (mF.rf)⟩
    exact ar_tswk ok_Mo_ownFault rfl hc1 (by decide +kernel) rfl rfl (Nat.le_of_ble_eq_true rfl) (Nat.le_of_ble_eq_true rfl) KT2
  rw [if_neg hc1] at hd
  by_cases hc17 : (s.1 4) = 1
  · rw [if_pos hc17] at hd
    have KT18 : am_S am_Pr none 4 108 0 0 41 (103, [some (.ref 22)], [], h0, 0, 0) (mQr (.int q.1) q.2 h0) := by
      refine am_steps ok_Mo_ownFault 2 (x' := (106, [some (.ref 22)], [.int 15, .ref 22], h0, 0, 0)) rfl (Nat.le_of_ble_eq_true rfl) (Nat.le_of_ble_eq_true rfl) ?_
      obtain ⟨q19, hq20, hd21⟩ := Option.bind_eq_some_iff.mp hd; clear hd; have hd := hd21; clear hd21
      refine ar_cv ok_Mo_ownFault hk_Mo_assetAt rfl rfl (As := [.int 15]) (ad := 22) (rest := []) rfl rfl hM.1 (Nat.le_of_ble_eq_true rfl) (k_Mo_assetAt 15 s h0 hM q19 hq20) (Nat.le_of_ble_eq_true rfl) (Nat.le_of_ble_eq_true rfl) (Nat.le_of_ble_eq_true rfl) (Nat.le_of_ble_eq_true rfl) (pc' := 109) rfl (fun r22 h24 z23 => ?_)
      obtain ⟨z28, z29⟩ := z23; subst z28; rw [z29]
      show am_S _ _ _ _ _ _ _ (109, [some (.ref 22)], [.int q19], h0, 0, 0) _
      refine am_steps ok_Mo_ownFault 1 (x' := (if (q19 : Int32) < 0 then 117 else 112, [some (.ref 22)], [], h0, 0, 0)) rfl (Nat.le_of_ble_eq_true rfl) (Nat.le_of_ble_eq_true rfl) ?_
      refine am_if (fun hc30 => ?_) (fun hc30 => ?_)
      · rw [if_pos hc30] at hd
        refine am_steps ok_Mo_ownFault 1 (x' := (118, [some (.ref 22)], [.ref 22], h0, 0, 0)) rfl (Nat.le_of_ble_eq_true rfl) (Nat.le_of_ble_eq_true rfl) ?_
        refine mr_get ok_Mo_ownFault rfl hM (v := .int (s.1 15)) rfl (pc' := 121) rfl (Nat.le_of_ble_eq_true rfl) (Nat.le_of_ble_eq_true rfl) ?_
        refine am_steps ok_Mo_ownFault 2 (x' := (if ¬ ((s.1 15) : Int32) = 64 then 131 else 126, [some (.ref 22)], [], h0, 0, 0)) rfl (Nat.le_of_ble_eq_true rfl) (Nat.le_of_ble_eq_true rfl) ?_
        refine am_if (fun hc31 => ?_) (fun hc31 => ?_)
        · rw [if_pos hc31] at hd
          refine am_steps ok_Mo_ownFault 1 (x' := (132, [some (.ref 22)], [.int 0], h0, 0, 0)) rfl (Nat.le_of_ble_eq_true rfl) (Nat.le_of_ble_eq_true rfl) ?_
          cases hd; exact am_ret ok_Mo_ownFault rfl (Nat.le_of_ble_eq_true rfl) (Nat.le_of_ble_eq_true rfl) ⟨rfl, hM, (mF.rf)⟩
        · rw [if_neg hc31] at hd
          refine am_steps ok_Mo_ownFault 2 (x' := (132, [some (.ref 22)], [.int 12], h0, 0, 0)) rfl (Nat.le_of_ble_eq_true rfl) (Nat.le_of_ble_eq_true rfl) ?_
          cases hd; exact am_ret ok_Mo_ownFault rfl (Nat.le_of_ble_eq_true rfl) (Nat.le_of_ble_eq_true rfl) ⟨rfl, hM, (mF.rf)⟩
      · rw [if_neg hc30] at hd
        refine am_steps ok_Mo_ownFault 2 (x' := (132, [some (.ref 22)], [.int 8], h0, 0, 0)) rfl (Nat.le_of_ble_eq_true rfl) (Nat.le_of_ble_eq_true rfl) ?_
        cases hd; exact am_ret ok_Mo_ownFault rfl (Nat.le_of_ble_eq_true rfl) (Nat.le_of_ble_eq_true rfl) ⟨rfl, hM, (mF.rf)⟩
    exact ar_tswk ok_Mo_ownFault rfl hc17 (by decide +kernel) rfl rfl (Nat.le_of_ble_eq_true rfl) (Nat.le_of_ble_eq_true rfl) KT18
  rw [if_neg hc17] at hd
  by_cases hc33 : (s.1 4) = 2
  · rw [if_pos hc33] at hd
    have KT34 : am_S am_Pr none 4 108 0 0 41 (133, [some (.ref 22)], [], h0, 0, 0) (mQr (.int q.1) q.2 h0) := by
      refine am_steps ok_Mo_ownFault 1 (x' := (134, [some (.ref 22)], [.ref 22], h0, 0, 0)) rfl (Nat.le_of_ble_eq_true rfl) (Nat.le_of_ble_eq_true rfl) ?_
      obtain ⟨q35, hq36, hd37⟩ := Option.bind_eq_some_iff.mp hd; clear hd; have hd := hd37; clear hd37
      refine ar_cv ok_Mo_ownFault hk_Mo_priceFault rfl rfl (As := []) (ad := 22) (rest := []) rfl rfl hM.1 (Nat.le_of_ble_eq_true rfl) (k_Mo_priceFault  s h0 hM q35 hq36) (Nat.le_of_ble_eq_true rfl) (Nat.le_of_ble_eq_true rfl) (Nat.le_of_ble_eq_true rfl) (Nat.le_of_ble_eq_true rfl) (pc' := 137) rfl (fun r38 h40 z39 => ?_)
      obtain ⟨rfl, hM41, g43⟩ := z39
      have f42 := mF.tr (mF.rf) g43
      show am_S _ _ _ _ _ _ _ (137, [some (.ref 22)], [.int q35.1], h40, 0, 0) _
      cases hd; exact am_ret ok_Mo_ownFault rfl (Nat.le_of_ble_eq_true rfl) (Nat.le_of_ble_eq_true rfl) ⟨rfl, hM41, f42⟩
    exact ar_tswk ok_Mo_ownFault rfl hc33 (by decide +kernel) rfl rfl (Nat.le_of_ble_eq_true rfl) (Nat.le_of_ble_eq_true rfl) KT34
  rw [if_neg hc33] at hd
  by_cases hc45 : (s.1 4) = 3 ∨ (s.1 4) = 4
  · rw [if_pos hc45] at hd
    have KT46 : am_S am_Pr none 4 108 0 0 41 (138, [some (.ref 22)], [], h0, 0, 0) (mQr (.int q.1) q.2 h0) := by
      refine am_steps ok_Mo_ownFault 1 (x' := (139, [some (.ref 22)], [.ref 22], h0, 0, 0)) rfl (Nat.le_of_ble_eq_true rfl) (Nat.le_of_ble_eq_true rfl) ?_
      obtain ⟨q47, hq48, hd49⟩ := Option.bind_eq_some_iff.mp hd; clear hd; have hd := hd49; clear hd49
      refine ar_cv ok_Mo_ownFault hk_Mo_bankFault rfl rfl (As := []) (ad := 22) (rest := []) rfl rfl hM.1 (Nat.le_of_ble_eq_true rfl) (k_Mo_bankFault  s h0 hM q47 hq48) (Nat.le_of_ble_eq_true rfl) (Nat.le_of_ble_eq_true rfl) (Nat.le_of_ble_eq_true rfl) (Nat.le_of_ble_eq_true rfl) (pc' := 142) rfl (fun r50 h52 z51 => ?_)
      obtain ⟨z56, z57⟩ := z51; subst z56; rw [z57]
      show am_S _ _ _ _ _ _ _ (142, [some (.ref 22)], [.int q47], h0, 0, 0) _
      cases hd; exact am_ret ok_Mo_ownFault rfl (Nat.le_of_ble_eq_true rfl) (Nat.le_of_ble_eq_true rfl) ⟨rfl, hM, (mF.rf)⟩
    rcases hc45 with hv58 | hv58
    · exact ar_tswk ok_Mo_ownFault rfl hv58 (by decide +kernel) rfl rfl (Nat.le_of_ble_eq_true rfl) (Nat.le_of_ble_eq_true rfl) KT46
    · exact ar_tswk ok_Mo_ownFault rfl hv58 (by decide +kernel) rfl rfl (Nat.le_of_ble_eq_true rfl) (Nat.le_of_ble_eq_true rfl) KT46
  rw [if_neg hc45] at hd
  by_cases hc59 : (s.1 4) = 5
  · rw [if_pos hc59] at hd
    have KT60 : am_S am_Pr none 4 108 0 0 41 (143, [some (.ref 22)], [], h0, 0, 0) (mQr (.int q.1) q.2 h0) := by
      refine am_steps ok_Mo_ownFault 1 (x' := (144, [some (.ref 22)], [.ref 22], h0, 0, 0)) rfl (Nat.le_of_ble_eq_true rfl) (Nat.le_of_ble_eq_true rfl) ?_
      obtain ⟨q61, hq62, hd63⟩ := Option.bind_eq_some_iff.mp hd; clear hd; have hd := hd63; clear hd63
      refine ar_cv ok_Mo_ownFault hk_Mo_legsFault rfl rfl (As := []) (ad := 22) (rest := []) rfl rfl hM.1 (Nat.le_of_ble_eq_true rfl) (k_Mo_legsFault  s h0 hM q61 hq62) (Nat.le_of_ble_eq_true rfl) (Nat.le_of_ble_eq_true rfl) (Nat.le_of_ble_eq_true rfl) (Nat.le_of_ble_eq_true rfl) (pc' := 147) rfl (fun r64 h66 z65 => ?_)
      obtain ⟨z70, z71⟩ := z65; subst z70; rw [z71]
      show am_S _ _ _ _ _ _ _ (147, [some (.ref 22)], [.int q61], h0, 0, 0) _
      cases hd; exact am_ret ok_Mo_ownFault rfl (Nat.le_of_ble_eq_true rfl) (Nat.le_of_ble_eq_true rfl) ⟨rfl, hM, (mF.rf)⟩
    exact ar_tswk ok_Mo_ownFault rfl hc59 (by decide +kernel) rfl rfl (Nat.le_of_ble_eq_true rfl) (Nat.le_of_ble_eq_true rfl) KT60
  rw [if_neg hc59] at hd
  by_cases hc73 : (s.1 4) = 6
  · rw [if_pos hc73] at hd
    have KT74 : am_S am_Pr none 4 108 0 0 41 (148, [some (.ref 22)], [], h0, 0, 0) (mQr (.int q.1) q.2 h0) := by
      refine am_steps ok_Mo_ownFault 1 (x' := (149, [some (.ref 22)], [.ref 22], h0, 0, 0)) rfl (Nat.le_of_ble_eq_true rfl) (Nat.le_of_ble_eq_true rfl) ?_
      obtain ⟨q75, hq76, hd77⟩ := Option.bind_eq_some_iff.mp hd; clear hd; have hd := hd77; clear hd77
      refine ar_cv ok_Mo_ownFault hk_Mo_confirmFault rfl rfl (As := []) (ad := 22) (rest := []) rfl rfl hM.1 (Nat.le_of_ble_eq_true rfl) (k_Mo_confirmFault  s h0 hM q75 hq76) (Nat.le_of_ble_eq_true rfl) (Nat.le_of_ble_eq_true rfl) (Nat.le_of_ble_eq_true rfl) (Nat.le_of_ble_eq_true rfl) (pc' := 152) rfl (fun r78 h80 z79 => ?_)
      obtain ⟨z84, z85⟩ := z79; subst z84; rw [z85]
      show am_S _ _ _ _ _ _ _ (152, [some (.ref 22)], [.int q75], h0, 0, 0) _
      cases hd; exact am_ret ok_Mo_ownFault rfl (Nat.le_of_ble_eq_true rfl) (Nat.le_of_ble_eq_true rfl) ⟨rfl, hM, (mF.rf)⟩
    exact ar_tswk ok_Mo_ownFault rfl hc73 (by decide +kernel) rfl rfl (Nat.le_of_ble_eq_true rfl) (Nat.le_of_ble_eq_true rfl) KT74
  rw [if_neg hc73] at hd
  by_cases hc87 : (s.1 4) = 7 ∨ (s.1 4) = 8
  · rw [if_pos hc87] at hd
    have KT88 : am_S am_Pr none 4 108 0 0 41 (153, [some (.ref 22)], [], h0, 0, 0) (mQr (.int q.1) q.2 h0) := by
      refine am_steps ok_Mo_ownFault 2 (x' := (155, [some (.ref 22)], [.ref 22, .ref 22], h0, 0, 0)) rfl (Nat.le_of_ble_eq_true rfl) (Nat.le_of_ble_eq_true rfl) ?_
      refine mr_get ok_Mo_ownFault rfl hM (v := .int (s.1 5)) rfl (pc' := 158) rfl (Nat.le_of_ble_eq_true rfl) (Nat.le_of_ble_eq_true rfl) ?_
      refine am_steps ok_Mo_ownFault 3 (x' := (163, [some (.ref 22)], [.int 8, .int 15, .ref 22, .int (s.1 5), .ref 22], h0, 0, 0)) rfl (Nat.le_of_ble_eq_true rfl) (Nat.le_of_ble_eq_true rfl) ?_
      obtain ⟨q89, hq90, hd91⟩ := Option.bind_eq_some_iff.mp hd; clear hd; have hd := hd91; clear hd91
      refine ar_cv ok_Mo_ownFault hk_Mo_packed rfl rfl (As := [.int 15, .int 8]) (ad := 22) (rest := [.int (s.1 5), .ref 22]) rfl rfl hM.1 (Nat.le_of_ble_eq_true rfl) (k_Mo_packed 15 8 s h0 hM q89 hq90) (Nat.le_of_ble_eq_true rfl) (Nat.le_of_ble_eq_true rfl) (Nat.le_of_ble_eq_true rfl) (Nat.le_of_ble_eq_true rfl) (pc' := 166) rfl (fun r92 h94 z93 => ?_)
      obtain ⟨z98, z99⟩ := z93; subst z98; rw [z99]
      show am_S _ _ _ _ _ _ _ (166, [some (.ref 22)], [.long q89, .int (s.1 5), .ref 22], h0, 0, 0) _
      obtain ⟨q100, hq101, hd102⟩ := Option.bind_eq_some_iff.mp hd; clear hd; have hd := hd102; clear hd102
      refine ar_cv ok_Mo_ownFault hk_Mo_openOf rfl rfl (As := [.int (s.1 5), .long q89]) (ad := 22) (rest := []) rfl rfl hM.1 (Nat.le_of_ble_eq_true rfl) (k_Mo_openOf (s.1 5) q89 s h0 hM q100 hq101) (Nat.le_of_ble_eq_true rfl) (Nat.le_of_ble_eq_true rfl) (Nat.le_of_ble_eq_true rfl) (Nat.le_of_ble_eq_true rfl) (pc' := 169) rfl (fun r103 h105 z104 => ?_)
      obtain ⟨z109, z110⟩ := z104; subst z109; rw [z110]
      show am_S _ _ _ _ _ _ _ (169, [some (.ref 22)], [.int q100], h0, 0, 0) _
      refine am_steps ok_Mo_ownFault 1 (x' := (if (0 : Int32) ≤ q100 then 177 else 172, [some (.ref 22)], [], h0, 0, 0)) rfl (Nat.le_of_ble_eq_true rfl) (Nat.le_of_ble_eq_true rfl) ?_
      refine am_if (fun hc111 => ?_) (fun hc111 => ?_)
      · rw [if_pos hc111] at hd
        refine am_steps ok_Mo_ownFault 1 (x' := (178, [some (.ref 22)], [.int 0], h0, 0, 0)) rfl (Nat.le_of_ble_eq_true rfl) (Nat.le_of_ble_eq_true rfl) ?_
        cases hd; exact am_ret ok_Mo_ownFault rfl (Nat.le_of_ble_eq_true rfl) (Nat.le_of_ble_eq_true rfl) ⟨rfl, hM, (mF.rf)⟩
      · rw [if_neg hc111] at hd
        refine am_steps ok_Mo_ownFault 2 (x' := (178, [some (.ref 22)], [.int 11], h0, 0, 0)) rfl (Nat.le_of_ble_eq_true rfl) (Nat.le_of_ble_eq_true rfl) ?_
        cases hd; exact am_ret ok_Mo_ownFault rfl (Nat.le_of_ble_eq_true rfl) (Nat.le_of_ble_eq_true rfl) ⟨rfl, hM, (mF.rf)⟩
    rcases hc87 with hv112 | hv112
    · exact ar_tswk ok_Mo_ownFault rfl hv112 (by decide +kernel) rfl rfl (Nat.le_of_ble_eq_true rfl) (Nat.le_of_ble_eq_true rfl) KT88
    · exact ar_tswk ok_Mo_ownFault rfl hv112 (by decide +kernel) rfl rfl (Nat.le_of_ble_eq_true rfl) (Nat.le_of_ble_eq_true rfl) KT88
  rw [if_neg hc87] at hd
  by_cases hc113 : (s.1 4) = 9
  · rw [if_pos hc113] at hd
    have KT114 : am_S am_Pr none 4 108 0 0 41 (179, [some (.ref 22)], [], h0, 0, 0) (mQr (.int q.1) q.2 h0) := by
      refine am_steps ok_Mo_ownFault 1 (x' := (180, [some (.ref 22)], [.ref 22], h0, 0, 0)) rfl (Nat.le_of_ble_eq_true rfl) (Nat.le_of_ble_eq_true rfl) ?_
      obtain ⟨q115, hq116, hd117⟩ := Option.bind_eq_some_iff.mp hd; clear hd; have hd := hd117; clear hd117
      refine ar_cv ok_Mo_ownFault hk_Mo_limitFault rfl rfl (As := []) (ad := 22) (rest := []) rfl rfl hM.1 (Nat.le_of_ble_eq_true rfl) (k_Mo_limitFault  s h0 hM q115 hq116) (Nat.le_of_ble_eq_true rfl) (Nat.le_of_ble_eq_true rfl) (Nat.le_of_ble_eq_true rfl) (Nat.le_of_ble_eq_true rfl) (pc' := 183) rfl (fun r118 h120 z119 => ?_)
      obtain ⟨z124, z125⟩ := z119; subst z124; rw [z125]
      show am_S _ _ _ _ _ _ _ (183, [some (.ref 22)], [.int q115], h0, 0, 0) _
      cases hd; exact am_ret ok_Mo_ownFault rfl (Nat.le_of_ble_eq_true rfl) (Nat.le_of_ble_eq_true rfl) ⟨rfl, hM, (mF.rf)⟩
    exact ar_tswk ok_Mo_ownFault rfl hc113 (by decide +kernel) rfl rfl (Nat.le_of_ble_eq_true rfl) (Nat.le_of_ble_eq_true rfl) KT114
  rw [if_neg hc113] at hd
  by_cases hc127 : (s.1 4) = 10
  · rw [if_pos hc127] at hd
    have KT128 : am_S am_Pr none 4 108 0 0 41 (184, [some (.ref 22)], [], h0, 0, 0) (mQr (.int q.1) q.2 h0) := by
      refine am_steps ok_Mo_ownFault 1 (x' := (185, [some (.ref 22)], [.ref 22], h0, 0, 0)) rfl (Nat.le_of_ble_eq_true rfl) (Nat.le_of_ble_eq_true rfl) ?_
      refine mr_get ok_Mo_ownFault rfl hM (v := .ref 38) rfl (pc' := 188) rfl (Nat.le_of_ble_eq_true rfl) (Nat.le_of_ble_eq_true rfl) ?_
      refine am_steps ok_Mo_ownFault 2 (x' := (192, [some (.ref 22)], [.ref 22, .int 256, .ref 38], h0, 0, 0)) rfl (Nat.le_of_ble_eq_true rfl) (Nat.le_of_ble_eq_true rfl) ?_
      refine mr_get ok_Mo_ownFault rfl hM (v := .int (s.1 5)) rfl (pc' := 195) rfl (Nat.le_of_ble_eq_true rfl) (Nat.le_of_ble_eq_true rfl) ?_
      refine am_steps ok_Mo_ownFault 3 (x' := (199, [some (.ref 22)], [.int 15, .ref 22, .int (256 * (s.1 5)), .ref 38], h0, 0, 0)) rfl (Nat.le_of_ble_eq_true rfl) (Nat.le_of_ble_eq_true rfl) ?_
      obtain ⟨q129, hq130, hd131⟩ := Option.bind_eq_some_iff.mp hd; clear hd; have hd := hd131; clear hd131
      refine ar_cv ok_Mo_ownFault hk_Mo_memberAt rfl rfl (As := [.int 15]) (ad := 22) (rest := [.int (256 * (s.1 5)), .ref 38]) rfl rfl hM.1 (Nat.le_of_ble_eq_true rfl) (k_Mo_memberAt 15 s h0 hM q129 hq130) (Nat.le_of_ble_eq_true rfl) (Nat.le_of_ble_eq_true rfl) (Nat.le_of_ble_eq_true rfl) (Nat.le_of_ble_eq_true rfl) (pc' := 202) rfl (fun r132 h134 z133 => ?_)
      obtain ⟨z138, z139⟩ := z133; subst z138; rw [z139]
      show am_S _ _ _ _ _ _ _ (202, [some (.ref 22)], [.int q129, .int (256 * (s.1 5)), .ref 38], h0, 0, 0) _
      refine am_steps ok_Mo_ownFault 1 (x' := (203, [some (.ref 22)], [.int ((256 * (s.1 5)) + q129), .ref 38], h0, 0, 0)) rfl (Nat.le_of_ble_eq_true rfl) (Nat.le_of_ble_eq_true rfl) ?_
      obtain ⟨j140, hx141, hd142⟩ := Option.bind_eq_some_iff.mp hd; clear hd; have hd := hd142; clear hd142
      refine mr_lald ok_Mo_ownFault rfl hM (N := 65536) (by decide) hx141 (pc' := 204) rfl (Nat.le_of_ble_eq_true rfl) (Nat.le_of_ble_eq_true rfl) ?_
      refine am_steps ok_Mo_ownFault 3 (x' := (if (0 : Int32) ≤ (lg_cmp (s.2.2.2 38 j140) 0) then 214 else 209, [some (.ref 22)], [], h0, 0, 0)) rfl (Nat.le_of_ble_eq_true rfl) (Nat.le_of_ble_eq_true rfl) ?_
      refine am_if (fun hc143 => ?_) (fun hc143 => ?_)
      · rw [if_pos hc143] at hd
        refine am_steps ok_Mo_ownFault 1 (x' := (215, [some (.ref 22)], [.int 0], h0, 0, 0)) rfl (Nat.le_of_ble_eq_true rfl) (Nat.le_of_ble_eq_true rfl) ?_
        cases hd; exact am_ret ok_Mo_ownFault rfl (Nat.le_of_ble_eq_true rfl) (Nat.le_of_ble_eq_true rfl) ⟨rfl, hM, (mF.rf)⟩
      · rw [if_neg hc143] at hd
        refine am_steps ok_Mo_ownFault 2 (x' := (215, [some (.ref 22)], [.int 8], h0, 0, 0)) rfl (Nat.le_of_ble_eq_true rfl) (Nat.le_of_ble_eq_true rfl) ?_
        cases hd; exact am_ret ok_Mo_ownFault rfl (Nat.le_of_ble_eq_true rfl) (Nat.le_of_ble_eq_true rfl) ⟨rfl, hM, (mF.rf)⟩
    exact ar_tswk ok_Mo_ownFault rfl hc127 (by decide +kernel) rfl rfl (Nat.le_of_ble_eq_true rfl) (Nat.le_of_ble_eq_true rfl) KT128
  rw [if_neg hc127] at hd
  by_cases hc145 : (s.1 4) = 11 ∨ (s.1 4) = 12
  · rw [if_pos hc145] at hd
    have KT146 : am_S am_Pr none 4 108 0 0 41 (216, [some (.ref 22)], [], h0, 0, 0) (mQr (.int q.1) q.2 h0) := by
      refine am_steps ok_Mo_ownFault 1 (x' := (217, [some (.ref 22)], [.ref 22], h0, 0, 0)) rfl (Nat.le_of_ble_eq_true rfl) (Nat.le_of_ble_eq_true rfl) ?_
      obtain ⟨q147, hq148, hd149⟩ := Option.bind_eq_some_iff.mp hd; clear hd; have hd := hd149; clear hd149
      refine ar_cv ok_Mo_ownFault hk_Mo_pledgeFault rfl rfl (As := []) (ad := 22) (rest := []) rfl rfl hM.1 (Nat.le_of_ble_eq_true rfl) (k_Mo_pledgeFault  s h0 hM q147 hq148) (Nat.le_of_ble_eq_true rfl) (Nat.le_of_ble_eq_true rfl) (Nat.le_of_ble_eq_true rfl) (Nat.le_of_ble_eq_true rfl) (pc' := 220) rfl (fun r150 h152 z151 => ?_)
      obtain ⟨rfl, hM153, g155⟩ := z151
      have f154 := mF.tr (mF.rf) g155
      show am_S _ _ _ _ _ _ _ (220, [some (.ref 22)], [.int q147.1], h152, 0, 0) _
      cases hd; exact am_ret ok_Mo_ownFault rfl (Nat.le_of_ble_eq_true rfl) (Nat.le_of_ble_eq_true rfl) ⟨rfl, hM153, f154⟩
    rcases hc145 with hv156 | hv156
    · exact ar_tswk ok_Mo_ownFault rfl hv156 (by decide +kernel) rfl rfl (Nat.le_of_ble_eq_true rfl) (Nat.le_of_ble_eq_true rfl) KT146
    · exact ar_tswk ok_Mo_ownFault rfl hv156 (by decide +kernel) rfl rfl (Nat.le_of_ble_eq_true rfl) (Nat.le_of_ble_eq_true rfl) KT146
  rw [if_neg hc145] at hd
  have KT157 : am_S am_Pr none 4 108 0 0 41 (221, [some (.ref 22)], [], h0, 0, 0) (mQr (.int q.1) q.2 h0) := by
    refine am_steps ok_Mo_ownFault 1 (x' := (222, [some (.ref 22)], [.int 0], h0, 0, 0)) rfl (Nat.le_of_ble_eq_true rfl) (Nat.le_of_ble_eq_true rfl) ?_
    cases hd; exact am_ret ok_Mo_ownFault rfl (Nat.le_of_ble_eq_true rfl) (Nat.le_of_ble_eq_true rfl) ⟨rfl, hM, (mF.rf)⟩
  have ho162 : (s.1 4).toInt < 0 ∨ 12 < (s.1 4).toInt := tsw_out (fun c159 h160 h161 e158 => by
    have c159x : c159 = 0 ∨ c159 = 1 ∨ c159 = 2 ∨ c159 = 3 ∨ c159 = 4 ∨ c159 = 5 ∨ c159 = 6 ∨ c159 = 7 ∨ c159 = 8 ∨ c159 = 9 ∨ c159 = 10 ∨ c159 = 11 ∨ c159 = 12 := by omega
    rcases c159x with rfl | rfl | rfl | rfl | rfl | rfl | rfl | rfl | rfl | rfl | rfl | rfl | rfl
    · exact hc1 e158
    · exact hc17 e158
    · exact hc33 e158
    · exact hc45 (Or.inl e158)
    · exact hc45 (Or.inr e158)
    · exact hc59 e158
    · exact hc73 e158
    · exact hc87 (Or.inl e158)
    · exact hc87 (Or.inr e158)
    · exact hc113 e158
    · exact hc127 e158
    · exact hc145 (Or.inl e158)
    · exact hc145 (Or.inr e158))
  exact ar_tsw ok_Mo_ownFault rfl ho162 rfl (Nat.le_of_ble_eq_true rfl) (Nat.le_of_ble_eq_true rfl) KT157
def d_Mo_fault  (s : mS) : Option (Int32 × mS) := (d_Mo_isMessage  s).bind fun q1 => (if ¬ (q1.1 : Int32) = 0 then ((d_Mo_memberAt 3 q1.2).bind fun q11 => (if (0 : Int32) ≤ q11 then ((d_Mo_ofBank  (mI q1.2 5 q11)).bind fun q27 => (if (q27 : Int32) = 0 then ((d_Mo_codeFault  (mI q1.2 5 q11)).bind fun q39 => (if (q39 : Int32) ≤ 0 then ((d_Mo_isKept  (mI q1.2 5 q11)).bind fun q51 => (if (q51 : Int32) = 0 then ((d_Mo_isTime  (mI q1.2 5 q11)).bind fun q63 => (if ¬ (q63 : Int32) = 0 then ((d_Mo_isKept  (mI q1.2 5 q11)).bind fun q75 => (if (q75 : Int32) = 0 then ((d_Mo_ownFault  (mI q1.2 5 q11)).bind fun q87 => (some (q87.1, q87.2))) else (if ¬ ((q1.2.1 30) : Int32) = 2000 then ((d_Mo_ownFault  (mI q1.2 5 q11)).bind fun q97 => (some (q97.1, q97.2))) else (some (12, (mI q1.2 5 q11)))))) else (some (7, (mI q1.2 5 q11))))) else ((d_Mo_packed 7 8 (mI q1.2 5 q11)).bind fun q106 => ((d_Mo_textOf q11 q106 (mI q1.2 5 q11)).bind fun q117 => (if (q117 : Int32) < 0 then ((d_Mo_isTime  (mI q1.2 5 q11)).bind fun q129 => (if ¬ (q129 : Int32) = 0 then ((d_Mo_isKept  (mI q1.2 5 q11)).bind fun q141 => (if (q141 : Int32) = 0 then ((d_Mo_ownFault  (mI q1.2 5 q11)).bind fun q153 => (some (q153.1, q153.2))) else (if ¬ ((q1.2.1 30) : Int32) = 2000 then ((d_Mo_ownFault  (mI q1.2 5 q11)).bind fun q163 => (some (q163.1, q163.2))) else (some (12, (mI q1.2 5 q11)))))) else (some (7, (mI q1.2 5 q11))))) else ((d_Mo_isVery q117 (mI q1.2 5 q11)).bind fun q172 => (if (q172 : Int32) = 0 then (some (6, (mI q1.2 5 q11))) else (some ((-1), (mI q1.2 5 q11)))))))))) else (some (q39, (mI q1.2 5 q11))))) else (if (q11 : Int32) = 0 then ((d_Mo_codeFault  (mI q1.2 5 q11)).bind fun q185 => (if (q185 : Int32) ≤ 0 then ((d_Mo_isKept  (mI q1.2 5 q11)).bind fun q197 => (if (q197 : Int32) = 0 then ((d_Mo_isTime  (mI q1.2 5 q11)).bind fun q209 => (if ¬ (q209 : Int32) = 0 then ((d_Mo_isKept  (mI q1.2 5 q11)).bind fun q221 => (if (q221 : Int32) = 0 then ((d_Mo_ownFault  (mI q1.2 5 q11)).bind fun q233 => (some (q233.1, q233.2))) else (if ¬ ((q1.2.1 30) : Int32) = 2000 then ((d_Mo_ownFault  (mI q1.2 5 q11)).bind fun q243 => (some (q243.1, q243.2))) else (some (12, (mI q1.2 5 q11)))))) else (some (7, (mI q1.2 5 q11))))) else ((d_Mo_packed 7 8 (mI q1.2 5 q11)).bind fun q252 => ((d_Mo_textOf q11 q252 (mI q1.2 5 q11)).bind fun q263 => (if (q263 : Int32) < 0 then ((d_Mo_isTime  (mI q1.2 5 q11)).bind fun q275 => (if ¬ (q275 : Int32) = 0 then ((d_Mo_isKept  (mI q1.2 5 q11)).bind fun q287 => (if (q287 : Int32) = 0 then ((d_Mo_ownFault  (mI q1.2 5 q11)).bind fun q299 => (some (q299.1, q299.2))) else (if ¬ ((q1.2.1 30) : Int32) = 2000 then ((d_Mo_ownFault  (mI q1.2 5 q11)).bind fun q309 => (some (q309.1, q309.2))) else (some (12, (mI q1.2 5 q11)))))) else (some (7, (mI q1.2 5 q11))))) else ((d_Mo_isVery q263 (mI q1.2 5 q11)).bind fun q318 => (if (q318 : Int32) = 0 then (some (6, (mI q1.2 5 q11))) else (some ((-1), (mI q1.2 5 q11)))))))))) else (some (q185, (mI q1.2 5 q11))))) else (some (3, (mI q1.2 5 q11)))))) else (some (2, (mI q1.2 5 q11))))) else (some (1, q1.2)))
set_option maxHeartbeats 4000000 in
set_option maxRecDepth 100000 in
theorem k_Mo_fault  (s : mS) (h0 : am_H) (hM : RM s h0) (q : Int32 × mS) (hd : d_Mo_fault  s = some q) : am_Me am_Pr none 5 128 0 0 40 [.ref 22] h0 (mQr (.int q.1) q.2 h0) := by
  refine am_enter (d := hd_Mo_fault) rfl (by decide +kernel) (Nat.le_of_ble_eq_true rfl) ?_
  show am_S _ _ _ _ _ _ _ (0, [some (.ref 22), none, none], [], h0, 0, 0) _
  unfold d_Mo_fault at hd
  refine am_steps ok_Mo_fault 1 (x' := (1, [some (.ref 22), none, none], [.ref 22], h0, 0, 0)) rfl (Nat.le_of_ble_eq_true rfl) (Nat.le_of_ble_eq_true rfl) ?_
  obtain ⟨q1, hq2, hd3⟩ := Option.bind_eq_some_iff.mp hd; clear hd; have hd := hd3; clear hd3
  refine ar_cv ok_Mo_fault hk_Mo_isMessage rfl rfl (As := []) (ad := 22) (rest := []) rfl rfl hM.1 (Nat.le_of_ble_eq_true rfl) (k_Mo_isMessage  s h0 hM q1 hq2) (Nat.le_of_ble_eq_true rfl) (Nat.le_of_ble_eq_true rfl) (Nat.le_of_ble_eq_true rfl) (Nat.le_of_ble_eq_true rfl) (pc' := 4) rfl (fun r4 h6 z5 => ?_)
  obtain ⟨rfl, hM7, g9⟩ := z5
  have f8 := mF.tr (mF.rf) g9
  show am_S _ _ _ _ _ _ _ (4, [some (.ref 22), none, none], [.int q1.1], h6, 0, 0) _
  refine am_steps ok_Mo_fault 1 (x' := (if ¬ (q1.1 : Int32) = 0 then 9 else 7, [some (.ref 22), none, none], [], h6, 0, 0)) rfl (Nat.le_of_ble_eq_true rfl) (Nat.le_of_ble_eq_true rfl) ?_
  refine am_if (fun hc10 => ?_) (fun hc10 => ?_)
  · rw [if_pos hc10] at hd
    refine am_steps ok_Mo_fault 3 (x' := (12, [some (.ref 22), none, none], [.int 3, .ref 22, .ref 22], h6, 0, 0)) rfl (Nat.le_of_ble_eq_true rfl) (Nat.le_of_ble_eq_true rfl) ?_
    obtain ⟨q11, hq12, hd13⟩ := Option.bind_eq_some_iff.mp hd; clear hd; have hd := hd13; clear hd13
    refine ar_cv ok_Mo_fault hk_Mo_memberAt rfl rfl (As := [.int 3]) (ad := 22) (rest := [.ref 22]) rfl rfl hM7.1 (Nat.le_of_ble_eq_true rfl) (k_Mo_memberAt 3 q1.2 h6 hM7 q11 hq12) (Nat.le_of_ble_eq_true rfl) (Nat.le_of_ble_eq_true rfl) (Nat.le_of_ble_eq_true rfl) (Nat.le_of_ble_eq_true rfl) (pc' := 15) rfl (fun r14 h16 z15 => ?_)
    obtain ⟨z20, z21⟩ := z15; subst z20; rw [z21]
    show am_S _ _ _ _ _ _ _ (15, [some (.ref 22), none, none], [.int q11, .ref 22], h6, 0, 0) _
    refine mr_put ok_Mo_fault rfl hM7 (by decide) rfl (s' := (mI q1.2 5 q11)) (mfs_5 _ _) rfl (pc' := 18) rfl (Nat.le_of_ble_eq_true rfl) (Nat.le_of_ble_eq_true rfl) (fun h22 hM23 g25 => ?_)
    have f24 := mF.tr f8 g25
    refine am_steps ok_Mo_fault 1 (x' := (19, [some (.ref 22), none, none], [.ref 22], h22, 0, 0)) rfl (Nat.le_of_ble_eq_true rfl) (Nat.le_of_ble_eq_true rfl) ?_
    refine mr_get ok_Mo_fault rfl hM23 (v := .int q11) rfl (pc' := 22) rfl (Nat.le_of_ble_eq_true rfl) (Nat.le_of_ble_eq_true rfl) ?_
    refine am_steps ok_Mo_fault 1 (x' := (if (0 : Int32) ≤ q11 then 27 else 25, [some (.ref 22), none, none], [], h22, 0, 0)) rfl (Nat.le_of_ble_eq_true rfl) (Nat.le_of_ble_eq_true rfl) ?_
    refine am_if (fun hc26 => ?_) (fun hc26 => ?_)
    · rw [if_pos hc26] at hd
      refine am_steps ok_Mo_fault 1 (x' := (28, [some (.ref 22), none, none], [.ref 22], h22, 0, 0)) rfl (Nat.le_of_ble_eq_true rfl) (Nat.le_of_ble_eq_true rfl) ?_
      obtain ⟨q27, hq28, hd29⟩ := Option.bind_eq_some_iff.mp hd; clear hd; have hd := hd29; clear hd29
      refine ar_cv ok_Mo_fault hk_Mo_ofBank rfl rfl (As := []) (ad := 22) (rest := []) rfl rfl hM23.1 (Nat.le_of_ble_eq_true rfl) (k_Mo_ofBank  (mI q1.2 5 q11) h22 hM23 q27 hq28) (Nat.le_of_ble_eq_true rfl) (Nat.le_of_ble_eq_true rfl) (Nat.le_of_ble_eq_true rfl) (Nat.le_of_ble_eq_true rfl) (pc' := 31) rfl (fun r30 h32 z31 => ?_)
      obtain ⟨z36, z37⟩ := z31; subst z36; rw [z37]
      show am_S _ _ _ _ _ _ _ (31, [some (.ref 22), none, none], [.int q27], h22, 0, 0) _
      refine am_steps ok_Mo_fault 1 (x' := (if (q27 : Int32) = 0 then 43 else 34, [some (.ref 22), none, none], [], h22, 0, 0)) rfl (Nat.le_of_ble_eq_true rfl) (Nat.le_of_ble_eq_true rfl) ?_
      refine am_if (fun hc38 => ?_) (fun hc38 => ?_)
      · rw [if_pos hc38] at hd
        refine am_steps ok_Mo_fault 1 (x' := (44, [some (.ref 22), none, none], [.ref 22], h22, 0, 0)) rfl (Nat.le_of_ble_eq_true rfl) (Nat.le_of_ble_eq_true rfl) ?_
        obtain ⟨q39, hq40, hd41⟩ := Option.bind_eq_some_iff.mp hd; clear hd; have hd := hd41; clear hd41
        refine ar_cv ok_Mo_fault hk_Mo_codeFault rfl rfl (As := []) (ad := 22) (rest := []) rfl rfl hM23.1 (Nat.le_of_ble_eq_true rfl) (k_Mo_codeFault  (mI q1.2 5 q11) h22 hM23 q39 hq40) (Nat.le_of_ble_eq_true rfl) (Nat.le_of_ble_eq_true rfl) (Nat.le_of_ble_eq_true rfl) (Nat.le_of_ble_eq_true rfl) (pc' := 47) rfl (fun r42 h44 z43 => ?_)
        obtain ⟨z48, z49⟩ := z43; subst z48; rw [z49]
        show am_S _ _ _ _ _ _ _ (47, [some (.ref 22), none, none], [.int q39], h22, 0, 0) _
        refine am_steps ok_Mo_fault 3 (x' := (if (q39 : Int32) ≤ 0 then 54 else 52, [some (.ref 22), some (.int q39), none], [], h22, 0, 0)) rfl (Nat.le_of_ble_eq_true rfl) (Nat.le_of_ble_eq_true rfl) ?_
        refine am_if (fun hc50 => ?_) (fun hc50 => ?_)
        · rw [if_pos hc50] at hd
          refine am_steps ok_Mo_fault 1 (x' := (55, [some (.ref 22), some (.int q39), none], [.ref 22], h22, 0, 0)) rfl (Nat.le_of_ble_eq_true rfl) (Nat.le_of_ble_eq_true rfl) ?_
          obtain ⟨q51, hq52, hd53⟩ := Option.bind_eq_some_iff.mp hd; clear hd; have hd := hd53; clear hd53
          refine ar_cv ok_Mo_fault hk_Mo_isKept rfl rfl (As := []) (ad := 22) (rest := []) rfl rfl hM23.1 (Nat.le_of_ble_eq_true rfl) (k_Mo_isKept  (mI q1.2 5 q11) h22 hM23 q51 hq52) (Nat.le_of_ble_eq_true rfl) (Nat.le_of_ble_eq_true rfl) (Nat.le_of_ble_eq_true rfl) (Nat.le_of_ble_eq_true rfl) (pc' := 58) rfl (fun r54 h56 z55 => ?_)
          obtain ⟨z60, z61⟩ := z55; subst z60; rw [z61]
          show am_S _ _ _ _ _ _ _ (58, [some (.ref 22), some (.int q39), none], [.int q51], h22, 0, 0) _
          refine am_steps ok_Mo_fault 1 (x' := (if (q51 : Int32) = 0 then 97 else 61, [some (.ref 22), some (.int q39), none], [], h22, 0, 0)) rfl (Nat.le_of_ble_eq_true rfl) (Nat.le_of_ble_eq_true rfl) ?_
          refine am_if (fun hc62 => ?_) (fun hc62 => ?_)
          · rw [if_pos hc62] at hd
            refine am_steps ok_Mo_fault 1 (x' := (98, [some (.ref 22), some (.int q39), none], [.ref 22], h22, 0, 0)) rfl (Nat.le_of_ble_eq_true rfl) (Nat.le_of_ble_eq_true rfl) ?_
            obtain ⟨q63, hq64, hd65⟩ := Option.bind_eq_some_iff.mp hd; clear hd; have hd := hd65; clear hd65
            refine ar_cv ok_Mo_fault hk_Mo_isTime rfl rfl (As := []) (ad := 22) (rest := []) rfl rfl hM23.1 (Nat.le_of_ble_eq_true rfl) (k_Mo_isTime  (mI q1.2 5 q11) h22 hM23 q63 hq64) (Nat.le_of_ble_eq_true rfl) (Nat.le_of_ble_eq_true rfl) (Nat.le_of_ble_eq_true rfl) (Nat.le_of_ble_eq_true rfl) (pc' := 101) rfl (fun r66 h68 z67 => ?_)
            obtain ⟨z72, z73⟩ := z67; subst z72; rw [z73]
            show am_S _ _ _ _ _ _ _ (101, [some (.ref 22), some (.int q39), none], [.int q63], h22, 0, 0) _
            refine am_steps ok_Mo_fault 1 (x' := (if ¬ (q63 : Int32) = 0 then 107 else 104, [some (.ref 22), some (.int q39), none], [], h22, 0, 0)) rfl (Nat.le_of_ble_eq_true rfl) (Nat.le_of_ble_eq_true rfl) ?_
            refine am_if (fun hc74 => ?_) (fun hc74 => ?_)
            · rw [if_pos hc74] at hd
              refine am_steps ok_Mo_fault 1 (x' := (108, [some (.ref 22), some (.int q39), none], [.ref 22], h22, 0, 0)) rfl (Nat.le_of_ble_eq_true rfl) (Nat.le_of_ble_eq_true rfl) ?_
              obtain ⟨q75, hq76, hd77⟩ := Option.bind_eq_some_iff.mp hd; clear hd; have hd := hd77; clear hd77
              refine ar_cv ok_Mo_fault hk_Mo_isKept rfl rfl (As := []) (ad := 22) (rest := []) rfl rfl hM23.1 (Nat.le_of_ble_eq_true rfl) (k_Mo_isKept  (mI q1.2 5 q11) h22 hM23 q75 hq76) (Nat.le_of_ble_eq_true rfl) (Nat.le_of_ble_eq_true rfl) (Nat.le_of_ble_eq_true rfl) (Nat.le_of_ble_eq_true rfl) (pc' := 111) rfl (fun r78 h80 z79 => ?_)
              obtain ⟨z84, z85⟩ := z79; subst z84; rw [z85]
              show am_S _ _ _ _ _ _ _ (111, [some (.ref 22), some (.int q39), none], [.int q75], h22, 0, 0) _
              refine am_steps ok_Mo_fault 1 (x' := (if (q75 : Int32) = 0 then 127 else 114, [some (.ref 22), some (.int q39), none], [], h22, 0, 0)) rfl (Nat.le_of_ble_eq_true rfl) (Nat.le_of_ble_eq_true rfl) ?_
              refine am_if (fun hc86 => ?_) (fun hc86 => ?_)
              · rw [if_pos hc86] at hd
                refine am_steps ok_Mo_fault 1 (x' := (128, [some (.ref 22), some (.int q39), none], [.ref 22], h22, 0, 0)) rfl (Nat.le_of_ble_eq_true rfl) (Nat.le_of_ble_eq_true rfl) ?_
                obtain ⟨q87, hq88, hd89⟩ := Option.bind_eq_some_iff.mp hd; clear hd; have hd := hd89; clear hd89
                refine ar_cv ok_Mo_fault hk_Mo_ownFault rfl rfl (As := []) (ad := 22) (rest := []) rfl rfl hM23.1 (Nat.le_of_ble_eq_true rfl) (k_Mo_ownFault  (mI q1.2 5 q11) h22 hM23 q87 hq88) (Nat.le_of_ble_eq_true rfl) (Nat.le_of_ble_eq_true rfl) (Nat.le_of_ble_eq_true rfl) (Nat.le_of_ble_eq_true rfl) (pc' := 131) rfl (fun r90 h92 z91 => ?_)
                obtain ⟨rfl, hM93, g95⟩ := z91
                have f94 := mF.tr f24 g95
                show am_S _ _ _ _ _ _ _ (131, [some (.ref 22), some (.int q39), none], [.int q87.1], h92, 0, 0) _
                cases hd; exact am_ret ok_Mo_fault rfl (Nat.le_of_ble_eq_true rfl) (Nat.le_of_ble_eq_true rfl) ⟨rfl, hM93, f94⟩
              · rw [if_neg hc86] at hd
                refine am_steps ok_Mo_fault 1 (x' := (115, [some (.ref 22), some (.int q39), none], [.ref 22], h22, 0, 0)) rfl (Nat.le_of_ble_eq_true rfl) (Nat.le_of_ble_eq_true rfl) ?_
                refine mr_get ok_Mo_fault rfl hM23 (v := .int (q1.2.1 30)) rfl (pc' := 118) rfl (Nat.le_of_ble_eq_true rfl) (Nat.le_of_ble_eq_true rfl) ?_
                refine am_steps ok_Mo_fault 2 (x' := (if ¬ ((q1.2.1 30) : Int32) = 2000 then 127 else 124, [some (.ref 22), some (.int q39), none], [], h22, 0, 0)) rfl (Nat.le_of_ble_eq_true rfl) (Nat.le_of_ble_eq_true rfl) ?_
                refine am_if (fun hc96 => ?_) (fun hc96 => ?_)
                · rw [if_pos hc96] at hd
                  refine am_steps ok_Mo_fault 1 (x' := (128, [some (.ref 22), some (.int q39), none], [.ref 22], h22, 0, 0)) rfl (Nat.le_of_ble_eq_true rfl) (Nat.le_of_ble_eq_true rfl) ?_
                  obtain ⟨q97, hq98, hd99⟩ := Option.bind_eq_some_iff.mp hd; clear hd; have hd := hd99; clear hd99
                  refine ar_cv ok_Mo_fault hk_Mo_ownFault rfl rfl (As := []) (ad := 22) (rest := []) rfl rfl hM23.1 (Nat.le_of_ble_eq_true rfl) (k_Mo_ownFault  (mI q1.2 5 q11) h22 hM23 q97 hq98) (Nat.le_of_ble_eq_true rfl) (Nat.le_of_ble_eq_true rfl) (Nat.le_of_ble_eq_true rfl) (Nat.le_of_ble_eq_true rfl) (pc' := 131) rfl (fun r100 h102 z101 => ?_)
                  obtain ⟨rfl, hM103, g105⟩ := z101
                  have f104 := mF.tr f24 g105
                  show am_S _ _ _ _ _ _ _ (131, [some (.ref 22), some (.int q39), none], [.int q97.1], h102, 0, 0) _
                  cases hd; exact am_ret ok_Mo_fault rfl (Nat.le_of_ble_eq_true rfl) (Nat.le_of_ble_eq_true rfl) ⟨rfl, hM103, f104⟩
                · rw [if_neg hc96] at hd
                  refine am_steps ok_Mo_fault 1 (x' := (126, [some (.ref 22), some (.int q39), none], [.int 12], h22, 0, 0)) rfl (Nat.le_of_ble_eq_true rfl) (Nat.le_of_ble_eq_true rfl) ?_
                  cases hd; exact am_ret ok_Mo_fault rfl (Nat.le_of_ble_eq_true rfl) (Nat.le_of_ble_eq_true rfl) ⟨rfl, hM23, f24⟩
            · rw [if_neg hc74] at hd
              refine am_steps ok_Mo_fault 1 (x' := (106, [some (.ref 22), some (.int q39), none], [.int 7], h22, 0, 0)) rfl (Nat.le_of_ble_eq_true rfl) (Nat.le_of_ble_eq_true rfl) ?_
              cases hd; exact am_ret ok_Mo_fault rfl (Nat.le_of_ble_eq_true rfl) (Nat.le_of_ble_eq_true rfl) ⟨rfl, hM23, f24⟩
          · rw [if_neg hc62] at hd
            refine am_steps ok_Mo_fault 2 (x' := (63, [some (.ref 22), some (.int q39), none], [.ref 22, .ref 22], h22, 0, 0)) rfl (Nat.le_of_ble_eq_true rfl) (Nat.le_of_ble_eq_true rfl) ?_
            refine mr_get ok_Mo_fault rfl hM23 (v := .int q11) rfl (pc' := 66) rfl (Nat.le_of_ble_eq_true rfl) (Nat.le_of_ble_eq_true rfl) ?_
            refine am_steps ok_Mo_fault 3 (x' := (71, [some (.ref 22), some (.int q39), none], [.int 8, .int 7, .ref 22, .int q11, .ref 22], h22, 0, 0)) rfl (Nat.le_of_ble_eq_true rfl) (Nat.le_of_ble_eq_true rfl) ?_
            obtain ⟨q106, hq107, hd108⟩ := Option.bind_eq_some_iff.mp hd; clear hd; have hd := hd108; clear hd108
            refine ar_cv ok_Mo_fault hk_Mo_packed rfl rfl (As := [.int 7, .int 8]) (ad := 22) (rest := [.int q11, .ref 22]) rfl rfl hM23.1 (Nat.le_of_ble_eq_true rfl) (k_Mo_packed 7 8 (mI q1.2 5 q11) h22 hM23 q106 hq107) (Nat.le_of_ble_eq_true rfl) (Nat.le_of_ble_eq_true rfl) (Nat.le_of_ble_eq_true rfl) (Nat.le_of_ble_eq_true rfl) (pc' := 74) rfl (fun r109 h111 z110 => ?_)
            obtain ⟨z115, z116⟩ := z110; subst z115; rw [z116]
            show am_S _ _ _ _ _ _ _ (74, [some (.ref 22), some (.int q39), none], [.long q106, .int q11, .ref 22], h22, 0, 0) _
            obtain ⟨q117, hq118, hd119⟩ := Option.bind_eq_some_iff.mp hd; clear hd; have hd := hd119; clear hd119
            refine ar_cv ok_Mo_fault hk_Mo_textOf rfl rfl (As := [.int q11, .long q106]) (ad := 22) (rest := []) rfl rfl hM23.1 (Nat.le_of_ble_eq_true rfl) (k_Mo_textOf q11 q106 (mI q1.2 5 q11) h22 hM23 q117 hq118) (Nat.le_of_ble_eq_true rfl) (Nat.le_of_ble_eq_true rfl) (Nat.le_of_ble_eq_true rfl) (Nat.le_of_ble_eq_true rfl) (pc' := 77) rfl (fun r120 h122 z121 => ?_)
            obtain ⟨z126, z127⟩ := z121; subst z126; rw [z127]
            show am_S _ _ _ _ _ _ _ (77, [some (.ref 22), some (.int q39), none], [.int q117], h22, 0, 0) _
            refine am_steps ok_Mo_fault 3 (x' := (if (q117 : Int32) < 0 then 97 else 82, [some (.ref 22), some (.int q39), some (.int q117)], [], h22, 0, 0)) rfl (Nat.le_of_ble_eq_true rfl) (Nat.le_of_ble_eq_true rfl) ?_
            refine am_if (fun hc128 => ?_) (fun hc128 => ?_)
            · rw [if_pos hc128] at hd
              refine am_steps ok_Mo_fault 1 (x' := (98, [some (.ref 22), some (.int q39), some (.int q117)], [.ref 22], h22, 0, 0)) rfl (Nat.le_of_ble_eq_true rfl) (Nat.le_of_ble_eq_true rfl) ?_
              obtain ⟨q129, hq130, hd131⟩ := Option.bind_eq_some_iff.mp hd; clear hd; have hd := hd131; clear hd131
              refine ar_cv ok_Mo_fault hk_Mo_isTime rfl rfl (As := []) (ad := 22) (rest := []) rfl rfl hM23.1 (Nat.le_of_ble_eq_true rfl) (k_Mo_isTime  (mI q1.2 5 q11) h22 hM23 q129 hq130) (Nat.le_of_ble_eq_true rfl) (Nat.le_of_ble_eq_true rfl) (Nat.le_of_ble_eq_true rfl) (Nat.le_of_ble_eq_true rfl) (pc' := 101) rfl (fun r132 h134 z133 => ?_)
              obtain ⟨z138, z139⟩ := z133; subst z138; rw [z139]
              show am_S _ _ _ _ _ _ _ (101, [some (.ref 22), some (.int q39), some (.int q117)], [.int q129], h22, 0, 0) _
              refine am_steps ok_Mo_fault 1 (x' := (if ¬ (q129 : Int32) = 0 then 107 else 104, [some (.ref 22), some (.int q39), some (.int q117)], [], h22, 0, 0)) rfl (Nat.le_of_ble_eq_true rfl) (Nat.le_of_ble_eq_true rfl) ?_
              refine am_if (fun hc140 => ?_) (fun hc140 => ?_)
              · rw [if_pos hc140] at hd
                refine am_steps ok_Mo_fault 1 (x' := (108, [some (.ref 22), some (.int q39), some (.int q117)], [.ref 22], h22, 0, 0)) rfl (Nat.le_of_ble_eq_true rfl) (Nat.le_of_ble_eq_true rfl) ?_
                obtain ⟨q141, hq142, hd143⟩ := Option.bind_eq_some_iff.mp hd; clear hd; have hd := hd143; clear hd143
                refine ar_cv ok_Mo_fault hk_Mo_isKept rfl rfl (As := []) (ad := 22) (rest := []) rfl rfl hM23.1 (Nat.le_of_ble_eq_true rfl) (k_Mo_isKept  (mI q1.2 5 q11) h22 hM23 q141 hq142) (Nat.le_of_ble_eq_true rfl) (Nat.le_of_ble_eq_true rfl) (Nat.le_of_ble_eq_true rfl) (Nat.le_of_ble_eq_true rfl) (pc' := 111) rfl (fun r144 h146 z145 => ?_)
                obtain ⟨z150, z151⟩ := z145; subst z150; rw [z151]
                show am_S _ _ _ _ _ _ _ (111, [some (.ref 22), some (.int q39), some (.int q117)], [.int q141], h22, 0, 0) _
                refine am_steps ok_Mo_fault 1 (x' := (if (q141 : Int32) = 0 then 127 else 114, [some (.ref 22), some (.int q39), some (.int q117)], [], h22, 0, 0)) rfl (Nat.le_of_ble_eq_true rfl) (Nat.le_of_ble_eq_true rfl) ?_
                refine am_if (fun hc152 => ?_) (fun hc152 => ?_)
                · rw [if_pos hc152] at hd
                  refine am_steps ok_Mo_fault 1 (x' := (128, [some (.ref 22), some (.int q39), some (.int q117)], [.ref 22], h22, 0, 0)) rfl (Nat.le_of_ble_eq_true rfl) (Nat.le_of_ble_eq_true rfl) ?_
                  obtain ⟨q153, hq154, hd155⟩ := Option.bind_eq_some_iff.mp hd; clear hd; have hd := hd155; clear hd155
                  refine ar_cv ok_Mo_fault hk_Mo_ownFault rfl rfl (As := []) (ad := 22) (rest := []) rfl rfl hM23.1 (Nat.le_of_ble_eq_true rfl) (k_Mo_ownFault  (mI q1.2 5 q11) h22 hM23 q153 hq154) (Nat.le_of_ble_eq_true rfl) (Nat.le_of_ble_eq_true rfl) (Nat.le_of_ble_eq_true rfl) (Nat.le_of_ble_eq_true rfl) (pc' := 131) rfl (fun r156 h158 z157 => ?_)
                  obtain ⟨rfl, hM159, g161⟩ := z157
                  have f160 := mF.tr f24 g161
                  show am_S _ _ _ _ _ _ _ (131, [some (.ref 22), some (.int q39), some (.int q117)], [.int q153.1], h158, 0, 0) _
                  cases hd; exact am_ret ok_Mo_fault rfl (Nat.le_of_ble_eq_true rfl) (Nat.le_of_ble_eq_true rfl) ⟨rfl, hM159, f160⟩
                · rw [if_neg hc152] at hd
                  refine am_steps ok_Mo_fault 1 (x' := (115, [some (.ref 22), some (.int q39), some (.int q117)], [.ref 22], h22, 0, 0)) rfl (Nat.le_of_ble_eq_true rfl) (Nat.le_of_ble_eq_true rfl) ?_
                  refine mr_get ok_Mo_fault rfl hM23 (v := .int (q1.2.1 30)) rfl (pc' := 118) rfl (Nat.le_of_ble_eq_true rfl) (Nat.le_of_ble_eq_true rfl) ?_
                  refine am_steps ok_Mo_fault 2 (x' := (if ¬ ((q1.2.1 30) : Int32) = 2000 then 127 else 124, [some (.ref 22), some (.int q39), some (.int q117)], [], h22, 0, 0)) rfl (Nat.le_of_ble_eq_true rfl) (Nat.le_of_ble_eq_true rfl) ?_
                  refine am_if (fun hc162 => ?_) (fun hc162 => ?_)
                  · rw [if_pos hc162] at hd
                    refine am_steps ok_Mo_fault 1 (x' := (128, [some (.ref 22), some (.int q39), some (.int q117)], [.ref 22], h22, 0, 0)) rfl (Nat.le_of_ble_eq_true rfl) (Nat.le_of_ble_eq_true rfl) ?_
                    obtain ⟨q163, hq164, hd165⟩ := Option.bind_eq_some_iff.mp hd; clear hd; have hd := hd165; clear hd165
                    refine ar_cv ok_Mo_fault hk_Mo_ownFault rfl rfl (As := []) (ad := 22) (rest := []) rfl rfl hM23.1 (Nat.le_of_ble_eq_true rfl) (k_Mo_ownFault  (mI q1.2 5 q11) h22 hM23 q163 hq164) (Nat.le_of_ble_eq_true rfl) (Nat.le_of_ble_eq_true rfl) (Nat.le_of_ble_eq_true rfl) (Nat.le_of_ble_eq_true rfl) (pc' := 131) rfl (fun r166 h168 z167 => ?_)
                    obtain ⟨rfl, hM169, g171⟩ := z167
                    have f170 := mF.tr f24 g171
                    show am_S _ _ _ _ _ _ _ (131, [some (.ref 22), some (.int q39), some (.int q117)], [.int q163.1], h168, 0, 0) _
                    cases hd; exact am_ret ok_Mo_fault rfl (Nat.le_of_ble_eq_true rfl) (Nat.le_of_ble_eq_true rfl) ⟨rfl, hM169, f170⟩
                  · rw [if_neg hc162] at hd
                    refine am_steps ok_Mo_fault 1 (x' := (126, [some (.ref 22), some (.int q39), some (.int q117)], [.int 12], h22, 0, 0)) rfl (Nat.le_of_ble_eq_true rfl) (Nat.le_of_ble_eq_true rfl) ?_
                    cases hd; exact am_ret ok_Mo_fault rfl (Nat.le_of_ble_eq_true rfl) (Nat.le_of_ble_eq_true rfl) ⟨rfl, hM23, f24⟩
              · rw [if_neg hc140] at hd
                refine am_steps ok_Mo_fault 1 (x' := (106, [some (.ref 22), some (.int q39), some (.int q117)], [.int 7], h22, 0, 0)) rfl (Nat.le_of_ble_eq_true rfl) (Nat.le_of_ble_eq_true rfl) ?_
                cases hd; exact am_ret ok_Mo_fault rfl (Nat.le_of_ble_eq_true rfl) (Nat.le_of_ble_eq_true rfl) ⟨rfl, hM23, f24⟩
            · rw [if_neg hc128] at hd
              refine am_steps ok_Mo_fault 2 (x' := (84, [some (.ref 22), some (.int q39), some (.int q117)], [.int q117, .ref 22], h22, 0, 0)) rfl (Nat.le_of_ble_eq_true rfl) (Nat.le_of_ble_eq_true rfl) ?_
              obtain ⟨q172, hq173, hd174⟩ := Option.bind_eq_some_iff.mp hd; clear hd; have hd := hd174; clear hd174
              refine ar_cv ok_Mo_fault hk_Mo_isVery rfl rfl (As := [.int q117]) (ad := 22) (rest := []) rfl rfl hM23.1 (Nat.le_of_ble_eq_true rfl) (k_Mo_isVery q117 (mI q1.2 5 q11) h22 hM23 q172 hq173) (Nat.le_of_ble_eq_true rfl) (Nat.le_of_ble_eq_true rfl) (Nat.le_of_ble_eq_true rfl) (Nat.le_of_ble_eq_true rfl) (pc' := 87) rfl (fun r175 h177 z176 => ?_)
              obtain ⟨z181, z182⟩ := z176; subst z181; rw [z182]
              show am_S _ _ _ _ _ _ _ (87, [some (.ref 22), some (.int q39), some (.int q117)], [.int q172], h22, 0, 0) _
              refine am_steps ok_Mo_fault 1 (x' := (if (q172 : Int32) = 0 then 94 else 90, [some (.ref 22), some (.int q39), some (.int q117)], [], h22, 0, 0)) rfl (Nat.le_of_ble_eq_true rfl) (Nat.le_of_ble_eq_true rfl) ?_
              refine am_if (fun hc183 => ?_) (fun hc183 => ?_)
              · rw [if_pos hc183] at hd
                refine am_steps ok_Mo_fault 1 (x' := (96, [some (.ref 22), some (.int q39), some (.int q117)], [.int 6], h22, 0, 0)) rfl (Nat.le_of_ble_eq_true rfl) (Nat.le_of_ble_eq_true rfl) ?_
                cases hd; exact am_ret ok_Mo_fault rfl (Nat.le_of_ble_eq_true rfl) (Nat.le_of_ble_eq_true rfl) ⟨rfl, hM23, f24⟩
              · rw [if_neg hc183] at hd
                refine am_steps ok_Mo_fault 2 (x' := (96, [some (.ref 22), some (.int q39), some (.int q117)], [.int (-1)], h22, 0, 0)) rfl (Nat.le_of_ble_eq_true rfl) (Nat.le_of_ble_eq_true rfl) ?_
                cases hd; exact am_ret ok_Mo_fault rfl (Nat.le_of_ble_eq_true rfl) (Nat.le_of_ble_eq_true rfl) ⟨rfl, hM23, f24⟩
        · rw [if_neg hc50] at hd
          refine am_steps ok_Mo_fault 1 (x' := (53, [some (.ref 22), some (.int q39), none], [.int q39], h22, 0, 0)) rfl (Nat.le_of_ble_eq_true rfl) (Nat.le_of_ble_eq_true rfl) ?_
          cases hd; exact am_ret ok_Mo_fault rfl (Nat.le_of_ble_eq_true rfl) (Nat.le_of_ble_eq_true rfl) ⟨rfl, hM23, f24⟩
      · rw [if_neg hc38] at hd
        refine am_steps ok_Mo_fault 1 (x' := (35, [some (.ref 22), none, none], [.ref 22], h22, 0, 0)) rfl (Nat.le_of_ble_eq_true rfl) (Nat.le_of_ble_eq_true rfl) ?_
        refine mr_get ok_Mo_fault rfl hM23 (v := .int q11) rfl (pc' := 38) rfl (Nat.le_of_ble_eq_true rfl) (Nat.le_of_ble_eq_true rfl) ?_
        refine am_steps ok_Mo_fault 1 (x' := (if (q11 : Int32) = 0 then 43 else 41, [some (.ref 22), none, none], [], h22, 0, 0)) rfl (Nat.le_of_ble_eq_true rfl) (Nat.le_of_ble_eq_true rfl) ?_
        refine am_if (fun hc184 => ?_) (fun hc184 => ?_)
        · rw [if_pos hc184] at hd
          refine am_steps ok_Mo_fault 1 (x' := (44, [some (.ref 22), none, none], [.ref 22], h22, 0, 0)) rfl (Nat.le_of_ble_eq_true rfl) (Nat.le_of_ble_eq_true rfl) ?_
          obtain ⟨q185, hq186, hd187⟩ := Option.bind_eq_some_iff.mp hd; clear hd; have hd := hd187; clear hd187
          refine ar_cv ok_Mo_fault hk_Mo_codeFault rfl rfl (As := []) (ad := 22) (rest := []) rfl rfl hM23.1 (Nat.le_of_ble_eq_true rfl) (k_Mo_codeFault  (mI q1.2 5 q11) h22 hM23 q185 hq186) (Nat.le_of_ble_eq_true rfl) (Nat.le_of_ble_eq_true rfl) (Nat.le_of_ble_eq_true rfl) (Nat.le_of_ble_eq_true rfl) (pc' := 47) rfl (fun r188 h190 z189 => ?_)
          obtain ⟨z194, z195⟩ := z189; subst z194; rw [z195]
          show am_S _ _ _ _ _ _ _ (47, [some (.ref 22), none, none], [.int q185], h22, 0, 0) _
          refine am_steps ok_Mo_fault 3 (x' := (if (q185 : Int32) ≤ 0 then 54 else 52, [some (.ref 22), some (.int q185), none], [], h22, 0, 0)) rfl (Nat.le_of_ble_eq_true rfl) (Nat.le_of_ble_eq_true rfl) ?_
          refine am_if (fun hc196 => ?_) (fun hc196 => ?_)
          · rw [if_pos hc196] at hd
            refine am_steps ok_Mo_fault 1 (x' := (55, [some (.ref 22), some (.int q185), none], [.ref 22], h22, 0, 0)) rfl (Nat.le_of_ble_eq_true rfl) (Nat.le_of_ble_eq_true rfl) ?_
            obtain ⟨q197, hq198, hd199⟩ := Option.bind_eq_some_iff.mp hd; clear hd; have hd := hd199; clear hd199
            refine ar_cv ok_Mo_fault hk_Mo_isKept rfl rfl (As := []) (ad := 22) (rest := []) rfl rfl hM23.1 (Nat.le_of_ble_eq_true rfl) (k_Mo_isKept  (mI q1.2 5 q11) h22 hM23 q197 hq198) (Nat.le_of_ble_eq_true rfl) (Nat.le_of_ble_eq_true rfl) (Nat.le_of_ble_eq_true rfl) (Nat.le_of_ble_eq_true rfl) (pc' := 58) rfl (fun r200 h202 z201 => ?_)
            obtain ⟨z206, z207⟩ := z201; subst z206; rw [z207]
            show am_S _ _ _ _ _ _ _ (58, [some (.ref 22), some (.int q185), none], [.int q197], h22, 0, 0) _
            refine am_steps ok_Mo_fault 1 (x' := (if (q197 : Int32) = 0 then 97 else 61, [some (.ref 22), some (.int q185), none], [], h22, 0, 0)) rfl (Nat.le_of_ble_eq_true rfl) (Nat.le_of_ble_eq_true rfl) ?_
            refine am_if (fun hc208 => ?_) (fun hc208 => ?_)
            · rw [if_pos hc208] at hd
              refine am_steps ok_Mo_fault 1 (x' := (98, [some (.ref 22), some (.int q185), none], [.ref 22], h22, 0, 0)) rfl (Nat.le_of_ble_eq_true rfl) (Nat.le_of_ble_eq_true rfl) ?_
              obtain ⟨q209, hq210, hd211⟩ := Option.bind_eq_some_iff.mp hd; clear hd; have hd := hd211; clear hd211
              refine ar_cv ok_Mo_fault hk_Mo_isTime rfl rfl (As := []) (ad := 22) (rest := []) rfl rfl hM23.1 (Nat.le_of_ble_eq_true rfl) (k_Mo_isTime  (mI q1.2 5 q11) h22 hM23 q209 hq210) (Nat.le_of_ble_eq_true rfl) (Nat.le_of_ble_eq_true rfl) (Nat.le_of_ble_eq_true rfl) (Nat.le_of_ble_eq_true rfl) (pc' := 101) rfl (fun r212 h214 z213 => ?_)
              obtain ⟨z218, z219⟩ := z213; subst z218; rw [z219]
              show am_S _ _ _ _ _ _ _ (101, [some (.ref 22), some (.int q185), none], [.int q209], h22, 0, 0) _
              refine am_steps ok_Mo_fault 1 (x' := (if ¬ (q209 : Int32) = 0 then 107 else 104, [some (.ref 22), some (.int q185), none], [], h22, 0, 0)) rfl (Nat.le_of_ble_eq_true rfl) (Nat.le_of_ble_eq_true rfl) ?_
              refine am_if (fun hc220 => ?_) (fun hc220 => ?_)
              · rw [if_pos hc220] at hd
                refine am_steps ok_Mo_fault 1 (x' := (108, [some (.ref 22), some (.int q185), none], [.ref 22], h22, 0, 0)) rfl (Nat.le_of_ble_eq_true rfl) (Nat.le_of_ble_eq_true rfl) ?_
                obtain ⟨q221, hq222, hd223⟩ := Option.bind_eq_some_iff.mp hd; clear hd; have hd := hd223; clear hd223
                refine ar_cv ok_Mo_fault hk_Mo_isKept rfl rfl (As := []) (ad := 22) (rest := []) rfl rfl hM23.1 (Nat.le_of_ble_eq_true rfl) (k_Mo_isKept  (mI q1.2 5 q11) h22 hM23 q221 hq222) (Nat.le_of_ble_eq_true rfl) (Nat.le_of_ble_eq_true rfl) (Nat.le_of_ble_eq_true rfl) (Nat.le_of_ble_eq_true rfl) (pc' := 111) rfl (fun r224 h226 z225 => ?_)
                obtain ⟨z230, z231⟩ := z225; subst z230; rw [z231]
                show am_S _ _ _ _ _ _ _ (111, [some (.ref 22), some (.int q185), none], [.int q221], h22, 0, 0) _
                refine am_steps ok_Mo_fault 1 (x' := (if (q221 : Int32) = 0 then 127 else 114, [some (.ref 22), some (.int q185), none], [], h22, 0, 0)) rfl (Nat.le_of_ble_eq_true rfl) (Nat.le_of_ble_eq_true rfl) ?_
                refine am_if (fun hc232 => ?_) (fun hc232 => ?_)
                · rw [if_pos hc232] at hd
                  refine am_steps ok_Mo_fault 1 (x' := (128, [some (.ref 22), some (.int q185), none], [.ref 22], h22, 0, 0)) rfl (Nat.le_of_ble_eq_true rfl) (Nat.le_of_ble_eq_true rfl) ?_
                  obtain ⟨q233, hq234, hd235⟩ := Option.bind_eq_some_iff.mp hd; clear hd; have hd := hd235; clear hd235
                  refine ar_cv ok_Mo_fault hk_Mo_ownFault rfl rfl (As := []) (ad := 22) (rest := []) rfl rfl hM23.1 (Nat.le_of_ble_eq_true rfl) (k_Mo_ownFault  (mI q1.2 5 q11) h22 hM23 q233 hq234) (Nat.le_of_ble_eq_true rfl) (Nat.le_of_ble_eq_true rfl) (Nat.le_of_ble_eq_true rfl) (Nat.le_of_ble_eq_true rfl) (pc' := 131) rfl (fun r236 h238 z237 => ?_)
                  obtain ⟨rfl, hM239, g241⟩ := z237
                  have f240 := mF.tr f24 g241
                  show am_S _ _ _ _ _ _ _ (131, [some (.ref 22), some (.int q185), none], [.int q233.1], h238, 0, 0) _
                  cases hd; exact am_ret ok_Mo_fault rfl (Nat.le_of_ble_eq_true rfl) (Nat.le_of_ble_eq_true rfl) ⟨rfl, hM239, f240⟩
                · rw [if_neg hc232] at hd
                  refine am_steps ok_Mo_fault 1 (x' := (115, [some (.ref 22), some (.int q185), none], [.ref 22], h22, 0, 0)) rfl (Nat.le_of_ble_eq_true rfl) (Nat.le_of_ble_eq_true rfl) ?_
                  refine mr_get ok_Mo_fault rfl hM23 (v := .int (q1.2.1 30)) rfl (pc' := 118) rfl (Nat.le_of_ble_eq_true rfl) (Nat.le_of_ble_eq_true rfl) ?_
                  refine am_steps ok_Mo_fault 2 (x' := (if ¬ ((q1.2.1 30) : Int32) = 2000 then 127 else 124, [some (.ref 22), some (.int q185), none], [], h22, 0, 0)) rfl (Nat.le_of_ble_eq_true rfl) (Nat.le_of_ble_eq_true rfl) ?_
                  refine am_if (fun hc242 => ?_) (fun hc242 => ?_)
                  · rw [if_pos hc242] at hd
                    refine am_steps ok_Mo_fault 1 (x' := (128, [some (.ref 22), some (.int q185), none], [.ref 22], h22, 0, 0)) rfl (Nat.le_of_ble_eq_true rfl) (Nat.le_of_ble_eq_true rfl) ?_
                    obtain ⟨q243, hq244, hd245⟩ := Option.bind_eq_some_iff.mp hd; clear hd; have hd := hd245; clear hd245
                    refine ar_cv ok_Mo_fault hk_Mo_ownFault rfl rfl (As := []) (ad := 22) (rest := []) rfl rfl hM23.1 (Nat.le_of_ble_eq_true rfl) (k_Mo_ownFault  (mI q1.2 5 q11) h22 hM23 q243 hq244) (Nat.le_of_ble_eq_true rfl) (Nat.le_of_ble_eq_true rfl) (Nat.le_of_ble_eq_true rfl) (Nat.le_of_ble_eq_true rfl) (pc' := 131) rfl (fun r246 h248 z247 => ?_)
                    obtain ⟨rfl, hM249, g251⟩ := z247
                    have f250 := mF.tr f24 g251
                    show am_S _ _ _ _ _ _ _ (131, [some (.ref 22), some (.int q185), none], [.int q243.1], h248, 0, 0) _
                    cases hd; exact am_ret ok_Mo_fault rfl (Nat.le_of_ble_eq_true rfl) (Nat.le_of_ble_eq_true rfl) ⟨rfl, hM249, f250⟩
                  · rw [if_neg hc242] at hd
                    refine am_steps ok_Mo_fault 1 (x' := (126, [some (.ref 22), some (.int q185), none], [.int 12], h22, 0, 0)) rfl (Nat.le_of_ble_eq_true rfl) (Nat.le_of_ble_eq_true rfl) ?_
                    cases hd; exact am_ret ok_Mo_fault rfl (Nat.le_of_ble_eq_true rfl) (Nat.le_of_ble_eq_true rfl) ⟨rfl, hM23, f24⟩
              · rw [if_neg hc220] at hd
                refine am_steps ok_Mo_fault 1 (x' := (106, [some (.ref 22), some (.int q185), none], [.int 7], h22, 0, 0)) rfl (Nat.le_of_ble_eq_true rfl) (Nat.le_of_ble_eq_true rfl) ?_
                cases hd; exact am_ret ok_Mo_fault rfl (Nat.le_of_ble_eq_true rfl) (Nat.le_of_ble_eq_true rfl) ⟨rfl, hM23, f24⟩
            · rw [if_neg hc208] at hd
              refine am_steps ok_Mo_fault 2 (x' := (63, [some (.ref 22), some (.int q185), none], [.ref 22, .ref 22], h22, 0, 0)) rfl (Nat.le_of_ble_eq_true rfl) (Nat.le_of_ble_eq_true rfl) ?_
              refine mr_get ok_Mo_fault rfl hM23 (v := .int q11) rfl (pc' := 66) rfl (Nat.le_of_ble_eq_true rfl) (Nat.le_of_ble_eq_true rfl) ?_
              refine am_steps ok_Mo_fault 3 (x' := (71, [some (.ref 22), some (.int q185), none], [.int 8, .int 7, .ref 22, .int q11, .ref 22], h22, 0, 0)) rfl (Nat.le_of_ble_eq_true rfl) (Nat.le_of_ble_eq_true rfl) ?_
              obtain ⟨q252, hq253, hd254⟩ := Option.bind_eq_some_iff.mp hd; clear hd; have hd := hd254; clear hd254
              refine ar_cv ok_Mo_fault hk_Mo_packed rfl rfl (As := [.int 7, .int 8]) (ad := 22) (rest := [.int q11, .ref 22]) rfl rfl hM23.1 (Nat.le_of_ble_eq_true rfl) (k_Mo_packed 7 8 (mI q1.2 5 q11) h22 hM23 q252 hq253) (Nat.le_of_ble_eq_true rfl) (Nat.le_of_ble_eq_true rfl) (Nat.le_of_ble_eq_true rfl) (Nat.le_of_ble_eq_true rfl) (pc' := 74) rfl (fun r255 h257 z256 => ?_)
              obtain ⟨z261, z262⟩ := z256; subst z261; rw [z262]
              show am_S _ _ _ _ _ _ _ (74, [some (.ref 22), some (.int q185), none], [.long q252, .int q11, .ref 22], h22, 0, 0) _
              obtain ⟨q263, hq264, hd265⟩ := Option.bind_eq_some_iff.mp hd; clear hd; have hd := hd265; clear hd265
              refine ar_cv ok_Mo_fault hk_Mo_textOf rfl rfl (As := [.int q11, .long q252]) (ad := 22) (rest := []) rfl rfl hM23.1 (Nat.le_of_ble_eq_true rfl) (k_Mo_textOf q11 q252 (mI q1.2 5 q11) h22 hM23 q263 hq264) (Nat.le_of_ble_eq_true rfl) (Nat.le_of_ble_eq_true rfl) (Nat.le_of_ble_eq_true rfl) (Nat.le_of_ble_eq_true rfl) (pc' := 77) rfl (fun r266 h268 z267 => ?_)
              obtain ⟨z272, z273⟩ := z267; subst z272; rw [z273]
              show am_S _ _ _ _ _ _ _ (77, [some (.ref 22), some (.int q185), none], [.int q263], h22, 0, 0) _
              refine am_steps ok_Mo_fault 3 (x' := (if (q263 : Int32) < 0 then 97 else 82, [some (.ref 22), some (.int q185), some (.int q263)], [], h22, 0, 0)) rfl (Nat.le_of_ble_eq_true rfl) (Nat.le_of_ble_eq_true rfl) ?_
              refine am_if (fun hc274 => ?_) (fun hc274 => ?_)
              · rw [if_pos hc274] at hd
                refine am_steps ok_Mo_fault 1 (x' := (98, [some (.ref 22), some (.int q185), some (.int q263)], [.ref 22], h22, 0, 0)) rfl (Nat.le_of_ble_eq_true rfl) (Nat.le_of_ble_eq_true rfl) ?_
                obtain ⟨q275, hq276, hd277⟩ := Option.bind_eq_some_iff.mp hd; clear hd; have hd := hd277; clear hd277
                refine ar_cv ok_Mo_fault hk_Mo_isTime rfl rfl (As := []) (ad := 22) (rest := []) rfl rfl hM23.1 (Nat.le_of_ble_eq_true rfl) (k_Mo_isTime  (mI q1.2 5 q11) h22 hM23 q275 hq276) (Nat.le_of_ble_eq_true rfl) (Nat.le_of_ble_eq_true rfl) (Nat.le_of_ble_eq_true rfl) (Nat.le_of_ble_eq_true rfl) (pc' := 101) rfl (fun r278 h280 z279 => ?_)
                obtain ⟨z284, z285⟩ := z279; subst z284; rw [z285]
                show am_S _ _ _ _ _ _ _ (101, [some (.ref 22), some (.int q185), some (.int q263)], [.int q275], h22, 0, 0) _
                refine am_steps ok_Mo_fault 1 (x' := (if ¬ (q275 : Int32) = 0 then 107 else 104, [some (.ref 22), some (.int q185), some (.int q263)], [], h22, 0, 0)) rfl (Nat.le_of_ble_eq_true rfl) (Nat.le_of_ble_eq_true rfl) ?_
                refine am_if (fun hc286 => ?_) (fun hc286 => ?_)
                · rw [if_pos hc286] at hd
                  refine am_steps ok_Mo_fault 1 (x' := (108, [some (.ref 22), some (.int q185), some (.int q263)], [.ref 22], h22, 0, 0)) rfl (Nat.le_of_ble_eq_true rfl) (Nat.le_of_ble_eq_true rfl) ?_
                  obtain ⟨q287, hq288, hd289⟩ := Option.bind_eq_some_iff.mp hd; clear hd; have hd := hd289; clear hd289
                  refine ar_cv ok_Mo_fault hk_Mo_isKept rfl rfl (As := []) (ad := 22) (rest := []) rfl rfl hM23.1 (Nat.le_of_ble_eq_true rfl) (k_Mo_isKept  (mI q1.2 5 q11) h22 hM23 q287 hq288) (Nat.le_of_ble_eq_true rfl) (Nat.le_of_ble_eq_true rfl) (Nat.le_of_ble_eq_true rfl) (Nat.le_of_ble_eq_true rfl) (pc' := 111) rfl (fun r290 h292 z291 => ?_)
                  obtain ⟨z296, z297⟩ := z291; subst z296; rw [z297]
                  show am_S _ _ _ _ _ _ _ (111, [some (.ref 22), some (.int q185), some (.int q263)], [.int q287], h22, 0, 0) _
                  refine am_steps ok_Mo_fault 1 (x' := (if (q287 : Int32) = 0 then 127 else 114, [some (.ref 22), some (.int q185), some (.int q263)], [], h22, 0, 0)) rfl (Nat.le_of_ble_eq_true rfl) (Nat.le_of_ble_eq_true rfl) ?_
                  refine am_if (fun hc298 => ?_) (fun hc298 => ?_)
                  · rw [if_pos hc298] at hd
                    refine am_steps ok_Mo_fault 1 (x' := (128, [some (.ref 22), some (.int q185), some (.int q263)], [.ref 22], h22, 0, 0)) rfl (Nat.le_of_ble_eq_true rfl) (Nat.le_of_ble_eq_true rfl) ?_
                    obtain ⟨q299, hq300, hd301⟩ := Option.bind_eq_some_iff.mp hd; clear hd; have hd := hd301; clear hd301
                    refine ar_cv ok_Mo_fault hk_Mo_ownFault rfl rfl (As := []) (ad := 22) (rest := []) rfl rfl hM23.1 (Nat.le_of_ble_eq_true rfl) (k_Mo_ownFault  (mI q1.2 5 q11) h22 hM23 q299 hq300) (Nat.le_of_ble_eq_true rfl) (Nat.le_of_ble_eq_true rfl) (Nat.le_of_ble_eq_true rfl) (Nat.le_of_ble_eq_true rfl) (pc' := 131) rfl (fun r302 h304 z303 => ?_)
                    obtain ⟨rfl, hM305, g307⟩ := z303
                    have f306 := mF.tr f24 g307
                    show am_S _ _ _ _ _ _ _ (131, [some (.ref 22), some (.int q185), some (.int q263)], [.int q299.1], h304, 0, 0) _
                    cases hd; exact am_ret ok_Mo_fault rfl (Nat.le_of_ble_eq_true rfl) (Nat.le_of_ble_eq_true rfl) ⟨rfl, hM305, f306⟩
                  · rw [if_neg hc298] at hd
                    refine am_steps ok_Mo_fault 1 (x' := (115, [some (.ref 22), some (.int q185), some (.int q263)], [.ref 22], h22, 0, 0)) rfl (Nat.le_of_ble_eq_true rfl) (Nat.le_of_ble_eq_true rfl) ?_
                    refine mr_get ok_Mo_fault rfl hM23 (v := .int (q1.2.1 30)) rfl (pc' := 118) rfl (Nat.le_of_ble_eq_true rfl) (Nat.le_of_ble_eq_true rfl) ?_
                    refine am_steps ok_Mo_fault 2 (x' := (if ¬ ((q1.2.1 30) : Int32) = 2000 then 127 else 124, [some (.ref 22), some (.int q185), some (.int q263)], [], h22, 0, 0)) rfl (Nat.le_of_ble_eq_true rfl) (Nat.le_of_ble_eq_true rfl) ?_
                    refine am_if (fun hc308 => ?_) (fun hc308 => ?_)
                    · rw [if_pos hc308] at hd
                      refine am_steps ok_Mo_fault 1 (x' := (128, [some (.ref 22), some (.int q185), some (.int q263)], [.ref 22], h22, 0, 0)) rfl (Nat.le_of_ble_eq_true rfl) (Nat.le_of_ble_eq_true rfl) ?_
                      obtain ⟨q309, hq310, hd311⟩ := Option.bind_eq_some_iff.mp hd; clear hd; have hd := hd311; clear hd311
                      refine ar_cv ok_Mo_fault hk_Mo_ownFault rfl rfl (As := []) (ad := 22) (rest := []) rfl rfl hM23.1 (Nat.le_of_ble_eq_true rfl) (k_Mo_ownFault  (mI q1.2 5 q11) h22 hM23 q309 hq310) (Nat.le_of_ble_eq_true rfl) (Nat.le_of_ble_eq_true rfl) (Nat.le_of_ble_eq_true rfl) (Nat.le_of_ble_eq_true rfl) (pc' := 131) rfl (fun r312 h314 z313 => ?_)
                      obtain ⟨rfl, hM315, g317⟩ := z313
                      have f316 := mF.tr f24 g317
                      show am_S _ _ _ _ _ _ _ (131, [some (.ref 22), some (.int q185), some (.int q263)], [.int q309.1], h314, 0, 0) _
                      cases hd; exact am_ret ok_Mo_fault rfl (Nat.le_of_ble_eq_true rfl) (Nat.le_of_ble_eq_true rfl) ⟨rfl, hM315, f316⟩
                    · rw [if_neg hc308] at hd
                      refine am_steps ok_Mo_fault 1 (x' := (126, [some (.ref 22), some (.int q185), some (.int q263)], [.int 12], h22, 0, 0)) rfl (Nat.le_of_ble_eq_true rfl) (Nat.le_of_ble_eq_true rfl) ?_
                      cases hd; exact am_ret ok_Mo_fault rfl (Nat.le_of_ble_eq_true rfl) (Nat.le_of_ble_eq_true rfl) ⟨rfl, hM23, f24⟩
                · rw [if_neg hc286] at hd
                  refine am_steps ok_Mo_fault 1 (x' := (106, [some (.ref 22), some (.int q185), some (.int q263)], [.int 7], h22, 0, 0)) rfl (Nat.le_of_ble_eq_true rfl) (Nat.le_of_ble_eq_true rfl) ?_
                  cases hd; exact am_ret ok_Mo_fault rfl (Nat.le_of_ble_eq_true rfl) (Nat.le_of_ble_eq_true rfl) ⟨rfl, hM23, f24⟩
              · rw [if_neg hc274] at hd
                refine am_steps ok_Mo_fault 2 (x' := (84, [some (.ref 22), some (.int q185), some (.int q263)], [.int q263, .ref 22], h22, 0, 0)) rfl (Nat.le_of_ble_eq_true rfl) (Nat.le_of_ble_eq_true rfl) ?_
                obtain ⟨q318, hq319, hd320⟩ := Option.bind_eq_some_iff.mp hd; clear hd; have hd := hd320; clear hd320
                refine ar_cv ok_Mo_fault hk_Mo_isVery rfl rfl (As := [.int q263]) (ad := 22) (rest := []) rfl rfl hM23.1 (Nat.le_of_ble_eq_true rfl) (k_Mo_isVery q263 (mI q1.2 5 q11) h22 hM23 q318 hq319) (Nat.le_of_ble_eq_true rfl) (Nat.le_of_ble_eq_true rfl) (Nat.le_of_ble_eq_true rfl) (Nat.le_of_ble_eq_true rfl) (pc' := 87) rfl (fun r321 h323 z322 => ?_)
                obtain ⟨z327, z328⟩ := z322; subst z327; rw [z328]
                show am_S _ _ _ _ _ _ _ (87, [some (.ref 22), some (.int q185), some (.int q263)], [.int q318], h22, 0, 0) _
                refine am_steps ok_Mo_fault 1 (x' := (if (q318 : Int32) = 0 then 94 else 90, [some (.ref 22), some (.int q185), some (.int q263)], [], h22, 0, 0)) rfl (Nat.le_of_ble_eq_true rfl) (Nat.le_of_ble_eq_true rfl) ?_
                refine am_if (fun hc329 => ?_) (fun hc329 => ?_)
                · rw [if_pos hc329] at hd
                  refine am_steps ok_Mo_fault 1 (x' := (96, [some (.ref 22), some (.int q185), some (.int q263)], [.int 6], h22, 0, 0)) rfl (Nat.le_of_ble_eq_true rfl) (Nat.le_of_ble_eq_true rfl) ?_
                  cases hd; exact am_ret ok_Mo_fault rfl (Nat.le_of_ble_eq_true rfl) (Nat.le_of_ble_eq_true rfl) ⟨rfl, hM23, f24⟩
                · rw [if_neg hc329] at hd
                  refine am_steps ok_Mo_fault 2 (x' := (96, [some (.ref 22), some (.int q185), some (.int q263)], [.int (-1)], h22, 0, 0)) rfl (Nat.le_of_ble_eq_true rfl) (Nat.le_of_ble_eq_true rfl) ?_
                  cases hd; exact am_ret ok_Mo_fault rfl (Nat.le_of_ble_eq_true rfl) (Nat.le_of_ble_eq_true rfl) ⟨rfl, hM23, f24⟩
          · rw [if_neg hc196] at hd
            refine am_steps ok_Mo_fault 1 (x' := (53, [some (.ref 22), some (.int q185), none], [.int q185], h22, 0, 0)) rfl (Nat.le_of_ble_eq_true rfl) (Nat.le_of_ble_eq_true rfl) ?_
            cases hd; exact am_ret ok_Mo_fault rfl (Nat.le_of_ble_eq_true rfl) (Nat.le_of_ble_eq_true rfl) ⟨rfl, hM23, f24⟩
        · rw [if_neg hc184] at hd
          refine am_steps ok_Mo_fault 1 (x' := (42, [some (.ref 22), none, none], [.int 3], h22, 0, 0)) rfl (Nat.le_of_ble_eq_true rfl) (Nat.le_of_ble_eq_true rfl) ?_
          cases hd; exact am_ret ok_Mo_fault rfl (Nat.le_of_ble_eq_true rfl) (Nat.le_of_ble_eq_true rfl) ⟨rfl, hM23, f24⟩
    · rw [if_neg hc26] at hd
      refine am_steps ok_Mo_fault 1 (x' := (26, [some (.ref 22), none, none], [.int 2], h22, 0, 0)) rfl (Nat.le_of_ble_eq_true rfl) (Nat.le_of_ble_eq_true rfl) ?_
      cases hd; exact am_ret ok_Mo_fault rfl (Nat.le_of_ble_eq_true rfl) (Nat.le_of_ble_eq_true rfl) ⟨rfl, hM23, f24⟩
  · rw [if_neg hc10] at hd
    refine am_steps ok_Mo_fault 1 (x' := (8, [some (.ref 22), none, none], [.int 1], h6, 0, 0)) rfl (Nat.le_of_ble_eq_true rfl) (Nat.le_of_ble_eq_true rfl) ?_
    cases hd; exact am_ret ok_Mo_fault rfl (Nat.le_of_ble_eq_true rfl) (Nat.le_of_ble_eq_true rfl) ⟨rfl, hM7, f8⟩
def d_Mo_value (a : Int32) (s : mS) : Option (Int64) := if (16384 : Int32) ≤ a then ((am_ix (a - 16384) 65536).bind fun j2 => (some ((s.2.2.2 38 j2) - (s.2.2.2 37 j2)))) else ((am_ix a 16384).bind fun j5 => (some (s.2.2.2 31 j5)))
set_option maxHeartbeats 4000000 in
set_option maxRecDepth 100000 in
theorem k_Mo_value (a : Int32) (s : mS) (h0 : am_H) (hM : RM s h0) (q : Int64) (hd : d_Mo_value a s = some q) : am_Me am_Pr none 0 0 0 0 53 [.ref 22, .int a] h0 (am_is (some (.long q)) h0) := by
  refine am_enter (d := hd_Mo_value) rfl (by decide +kernel) (Nat.le_of_ble_eq_true rfl) ?_
  show am_S _ _ _ _ _ _ _ (0, [some (.ref 22), some (.int a)], [], h0, 0, 0) _
  unfold d_Mo_value at hd
  refine am_steps ok_Mo_value 3 (x' := (if (16384 : Int32) ≤ a then 16 else 7, [some (.ref 22), some (.int a)], [], h0, 0, 0)) rfl (Nat.le_of_ble_eq_true rfl) (Nat.le_of_ble_eq_true rfl) ?_
  refine am_if (fun hc1 => ?_) (fun hc1 => ?_)
  · rw [if_pos hc1] at hd
    refine am_steps ok_Mo_value 1 (x' := (17, [some (.ref 22), some (.int a)], [.ref 22], h0, 0, 0)) rfl (Nat.le_of_ble_eq_true rfl) (Nat.le_of_ble_eq_true rfl) ?_
    refine mr_get ok_Mo_value rfl hM (v := .ref 38) rfl (pc' := 20) rfl (Nat.le_of_ble_eq_true rfl) (Nat.le_of_ble_eq_true rfl) ?_
    refine am_steps ok_Mo_value 3 (x' := (25, [some (.ref 22), some (.int a)], [.int (a - 16384), .ref 38], h0, 0, 0)) rfl (Nat.le_of_ble_eq_true rfl) (Nat.le_of_ble_eq_true rfl) ?_
    obtain ⟨j2, hx3, hd4⟩ := Option.bind_eq_some_iff.mp hd; clear hd; have hd := hd4; clear hd4
    refine mr_lald ok_Mo_value rfl hM (N := 65536) (by decide) hx3 (pc' := 26) rfl (Nat.le_of_ble_eq_true rfl) (Nat.le_of_ble_eq_true rfl) ?_
    refine am_steps ok_Mo_value 1 (x' := (27, [some (.ref 22), some (.int a)], [.ref 22, .long (s.2.2.2 38 j2)], h0, 0, 0)) rfl (Nat.le_of_ble_eq_true rfl) (Nat.le_of_ble_eq_true rfl) ?_
    refine mr_get ok_Mo_value rfl hM (v := .ref 37) rfl (pc' := 30) rfl (Nat.le_of_ble_eq_true rfl) (Nat.le_of_ble_eq_true rfl) ?_
    refine am_steps ok_Mo_value 3 (x' := (35, [some (.ref 22), some (.int a)], [.int (a - 16384), .ref 37, .long (s.2.2.2 38 j2)], h0, 0, 0)) rfl (Nat.le_of_ble_eq_true rfl) (Nat.le_of_ble_eq_true rfl) ?_
    refine mr_lald ok_Mo_value rfl hM (N := 65536) (by decide) hx3 (pc' := 36) rfl (Nat.le_of_ble_eq_true rfl) (Nat.le_of_ble_eq_true rfl) ?_
    refine am_steps ok_Mo_value 1 (x' := (37, [some (.ref 22), some (.int a)], [.long ((s.2.2.2 38 j2) - (s.2.2.2 37 j2))], h0, 0, 0)) rfl (Nat.le_of_ble_eq_true rfl) (Nat.le_of_ble_eq_true rfl) ?_
    cases hd; exact am_ret ok_Mo_value rfl (Nat.le_of_ble_eq_true rfl) (Nat.le_of_ble_eq_true rfl) ⟨rfl, rfl⟩
  · rw [if_neg hc1] at hd
    refine am_steps ok_Mo_value 1 (x' := (8, [some (.ref 22), some (.int a)], [.ref 22], h0, 0, 0)) rfl (Nat.le_of_ble_eq_true rfl) (Nat.le_of_ble_eq_true rfl) ?_
    refine mr_get ok_Mo_value rfl hM (v := .ref 31) rfl (pc' := 11) rfl (Nat.le_of_ble_eq_true rfl) (Nat.le_of_ble_eq_true rfl) ?_
    refine am_steps ok_Mo_value 1 (x' := (12, [some (.ref 22), some (.int a)], [.int a, .ref 31], h0, 0, 0)) rfl (Nat.le_of_ble_eq_true rfl) (Nat.le_of_ble_eq_true rfl) ?_
    obtain ⟨j5, hx6, hd7⟩ := Option.bind_eq_some_iff.mp hd; clear hd; have hd := hd7; clear hd7
    refine mr_lald ok_Mo_value rfl hM (N := 16384) (by decide) hx6 (pc' := 13) rfl (Nat.le_of_ble_eq_true rfl) (Nat.le_of_ble_eq_true rfl) ?_
    refine am_steps ok_Mo_value 1 (x' := (37, [some (.ref 22), some (.int a)], [.long (s.2.2.2 31 j5)], h0, 0, 0)) rfl (Nat.le_of_ble_eq_true rfl) (Nat.le_of_ble_eq_true rfl) ?_
    cases hd; exact am_ret ok_Mo_value rfl (Nat.le_of_ble_eq_true rfl) (Nat.le_of_ble_eq_true rfl) ⟨rfl, rfl⟩
