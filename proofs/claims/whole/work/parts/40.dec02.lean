/-! Methods of the reference as functions of its state. -/
def l_Mo_codeFault_124 : Nat → Int32 → mS → Option (Int32)
  | 0, _, _ => none
  | fu + 1, v1, s => (am_ix 16 400).bind fun j45 => (if (((s.2.2.1 24 j45) - 48) : Int32) ≤ v1 then (some 0) else ((d_Mo_memberAt (17 + (26 * v1)) s).bind fun q49 => (if (q49 : Int32) < 0 then (some 4) else ((d_Mo_memberAt ((17 + (26 * v1)) + 4) s).bind fun q61 => (if (0 : Int32) ≤ q61 then ((d_Mo_assetAt ((17 + (26 * v1)) + 8) s).bind fun q73 => (if (0 : Int32) ≤ q73 then (l_Mo_codeFault_124 fu (v1 + 1) s) else (some 5))) else (some 4))))))
set_option maxHeartbeats 4000000 in
set_option maxRecDepth 100000 in
theorem L_Mo_codeFault_124 (s : mS) (h : am_H) (hM : RM s h) : ∀ (fu : Nat) (v1 : Int32) (q : Int32), l_Mo_codeFault_124 fu v1 s = some q → am_S am_Pr none 2 49 0 0 33 (124, [some (.ref 22), some (.int v1), none], [], h, 0, 0) (am_is (some (.int q)) h) := by
  intro fu
  induction fu with
  | zero => intro v1 q hd; cases hd
  | succ fu ih =>
    intro v1 q hd
    unfold l_Mo_codeFault_124 at hd
    refine am_steps ok_Mo_codeFault 2 (x' := (126, [some (.ref 22), some (.int v1), none], [.ref 22, .int v1], h, 0, 0)) rfl (Nat.le_of_ble_eq_true rfl) (Nat.le_of_ble_eq_true rfl) ?_
    refine mr_get ok_Mo_codeFault rfl hM (v := .ref 24) rfl (pc' := 129) rfl (Nat.le_of_ble_eq_true rfl) (Nat.le_of_ble_eq_true rfl) ?_
    refine am_steps ok_Mo_codeFault 1 (x' := (131, [some (.ref 22), some (.int v1), none], [.int 16, .ref 24, .int v1], h, 0, 0)) rfl (Nat.le_of_ble_eq_true rfl) (Nat.le_of_ble_eq_true rfl) ?_
    obtain ⟨j45, hx46, hd47⟩ := Option.bind_eq_some_iff.mp hd; clear hd; have hd := hd47; clear hd47
    refine mr_bald ok_Mo_codeFault rfl hM (N := 400) (by decide) (Or.inl rfl) hx46 (pc' := 132) rfl (Nat.le_of_ble_eq_true rfl) (Nat.le_of_ble_eq_true rfl) ?_
    refine am_steps ok_Mo_codeFault 3 (x' := (if (((s.2.2.1 24 j45) - 48) : Int32) ≤ v1 then 185 else 138, [some (.ref 22), some (.int v1), none], [], h, 0, 0)) rfl (Nat.le_of_ble_eq_true rfl) (Nat.le_of_ble_eq_true rfl) ?_
    refine am_if (fun hc48 => ?_) (fun hc48 => ?_)
    · rw [if_pos hc48] at hd
      refine am_steps ok_Mo_codeFault 1 (x' := (186, [some (.ref 22), some (.int v1), none], [.int 0], h, 0, 0)) rfl (Nat.le_of_ble_eq_true rfl) (Nat.le_of_ble_eq_true rfl) ?_
      cases hd; exact am_ret ok_Mo_codeFault rfl (Nat.le_of_ble_eq_true rfl) (Nat.le_of_ble_eq_true rfl) ⟨rfl, rfl⟩
    · rw [if_neg hc48] at hd
      refine am_steps ok_Mo_codeFault 8 (x' := (148, [some (.ref 22), some (.int v1), some (.int (17 + (26 * v1)))], [.int (17 + (26 * v1)), .ref 22], h, 0, 0)) rfl (Nat.le_of_ble_eq_true rfl) (Nat.le_of_ble_eq_true rfl) ?_
      obtain ⟨q49, hq50, hd51⟩ := Option.bind_eq_some_iff.mp hd; clear hd; have hd := hd51; clear hd51
      refine ar_cv ok_Mo_codeFault hk_Mo_memberAt rfl rfl (As := [.int (17 + (26 * v1))]) (ad := 22) (rest := []) rfl rfl hM.1 (Nat.le_of_ble_eq_true rfl) (k_Mo_memberAt (17 + (26 * v1)) s h hM q49 hq50) (Nat.le_of_ble_eq_true rfl) (Nat.le_of_ble_eq_true rfl) (Nat.le_of_ble_eq_true rfl) (Nat.le_of_ble_eq_true rfl) (pc' := 151) rfl (fun r52 h54 z53 => ?_)
      obtain ⟨z58, z59⟩ := z53; subst z58; rw [z59]
      show am_S _ _ _ _ _ _ _ (151, [some (.ref 22), some (.int v1), some (.int (17 + (26 * v1)))], [.int q49], h, 0, 0) _
      refine am_steps ok_Mo_codeFault 1 (x' := (if (q49 : Int32) < 0 then 164 else 154, [some (.ref 22), some (.int v1), some (.int (17 + (26 * v1)))], [], h, 0, 0)) rfl (Nat.le_of_ble_eq_true rfl) (Nat.le_of_ble_eq_true rfl) ?_
      refine am_if (fun hc60 => ?_) (fun hc60 => ?_)
      · rw [if_pos hc60] at hd
        refine am_steps ok_Mo_codeFault 1 (x' := (165, [some (.ref 22), some (.int v1), some (.int (17 + (26 * v1)))], [.int 4], h, 0, 0)) rfl (Nat.le_of_ble_eq_true rfl) (Nat.le_of_ble_eq_true rfl) ?_
        cases hd; exact am_ret ok_Mo_codeFault rfl (Nat.le_of_ble_eq_true rfl) (Nat.le_of_ble_eq_true rfl) ⟨rfl, rfl⟩
      · rw [if_neg hc60] at hd
        refine am_steps ok_Mo_codeFault 4 (x' := (158, [some (.ref 22), some (.int v1), some (.int (17 + (26 * v1)))], [.int ((17 + (26 * v1)) + 4), .ref 22], h, 0, 0)) rfl (Nat.le_of_ble_eq_true rfl) (Nat.le_of_ble_eq_true rfl) ?_
        obtain ⟨q61, hq62, hd63⟩ := Option.bind_eq_some_iff.mp hd; clear hd; have hd := hd63; clear hd63
        refine ar_cv ok_Mo_codeFault hk_Mo_memberAt rfl rfl (As := [.int ((17 + (26 * v1)) + 4)]) (ad := 22) (rest := []) rfl rfl hM.1 (Nat.le_of_ble_eq_true rfl) (k_Mo_memberAt ((17 + (26 * v1)) + 4) s h hM q61 hq62) (Nat.le_of_ble_eq_true rfl) (Nat.le_of_ble_eq_true rfl) (Nat.le_of_ble_eq_true rfl) (Nat.le_of_ble_eq_true rfl) (pc' := 161) rfl (fun r64 h66 z65 => ?_)
        obtain ⟨z70, z71⟩ := z65; subst z70; rw [z71]
        show am_S _ _ _ _ _ _ _ (161, [some (.ref 22), some (.int v1), some (.int (17 + (26 * v1)))], [.int q61], h, 0, 0) _
        refine am_steps ok_Mo_codeFault 1 (x' := (if (0 : Int32) ≤ q61 then 166 else 164, [some (.ref 22), some (.int v1), some (.int (17 + (26 * v1)))], [], h, 0, 0)) rfl (Nat.le_of_ble_eq_true rfl) (Nat.le_of_ble_eq_true rfl) ?_
        refine am_if (fun hc72 => ?_) (fun hc72 => ?_)
        · rw [if_pos hc72] at hd
          refine am_steps ok_Mo_codeFault 4 (x' := (171, [some (.ref 22), some (.int v1), some (.int (17 + (26 * v1)))], [.int ((17 + (26 * v1)) + 8), .ref 22], h, 0, 0)) rfl (Nat.le_of_ble_eq_true rfl) (Nat.le_of_ble_eq_true rfl) ?_
          obtain ⟨q73, hq74, hd75⟩ := Option.bind_eq_some_iff.mp hd; clear hd; have hd := hd75; clear hd75
          refine ar_cv ok_Mo_codeFault hk_Mo_assetAt rfl rfl (As := [.int ((17 + (26 * v1)) + 8)]) (ad := 22) (rest := []) rfl rfl hM.1 (Nat.le_of_ble_eq_true rfl) (k_Mo_assetAt ((17 + (26 * v1)) + 8) s h hM q73 hq74) (Nat.le_of_ble_eq_true rfl) (Nat.le_of_ble_eq_true rfl) (Nat.le_of_ble_eq_true rfl) (Nat.le_of_ble_eq_true rfl) (pc' := 174) rfl (fun r76 h78 z77 => ?_)
          obtain ⟨z82, z83⟩ := z77; subst z82; rw [z83]
          show am_S _ _ _ _ _ _ _ (174, [some (.ref 22), some (.int v1), some (.int (17 + (26 * v1)))], [.int q73], h, 0, 0) _
          refine am_steps ok_Mo_codeFault 1 (x' := (if (0 : Int32) ≤ q73 then 179 else 177, [some (.ref 22), some (.int v1), some (.int (17 + (26 * v1)))], [], h, 0, 0)) rfl (Nat.le_of_ble_eq_true rfl) (Nat.le_of_ble_eq_true rfl) ?_
          refine am_if (fun hc84 => ?_) (fun hc84 => ?_)
          · rw [if_pos hc84] at hd
            refine am_steps ok_Mo_codeFault 2 (x' := (124, [some (.ref 22), some (.int (v1 + 1)), some (.int (17 + (26 * v1)))], [], h, 0, 0)) rfl (Nat.le_of_ble_eq_true rfl) (Nat.le_of_ble_eq_true rfl) ?_
            refine am_drop 2 ?_
            exact ih (v1 + 1) q hd
          · rw [if_neg hc84] at hd
            refine am_steps ok_Mo_codeFault 1 (x' := (178, [some (.ref 22), some (.int v1), some (.int (17 + (26 * v1)))], [.int 5], h, 0, 0)) rfl (Nat.le_of_ble_eq_true rfl) (Nat.le_of_ble_eq_true rfl) ?_
            cases hd; exact am_ret ok_Mo_codeFault rfl (Nat.le_of_ble_eq_true rfl) (Nat.le_of_ble_eq_true rfl) ⟨rfl, rfl⟩
        · rw [if_neg hc72] at hd
          refine am_steps ok_Mo_codeFault 1 (x' := (165, [some (.ref 22), some (.int v1), some (.int (17 + (26 * v1)))], [.int 4], h, 0, 0)) rfl (Nat.le_of_ble_eq_true rfl) (Nat.le_of_ble_eq_true rfl) ?_
          cases hd; exact am_ret ok_Mo_codeFault rfl (Nat.le_of_ble_eq_true rfl) (Nat.le_of_ble_eq_true rfl) ⟨rfl, rfl⟩
def d_Mo_codeFault  (s : mS) : Option (Int32) := if (s.1 4) = 2 ∨ (s.1 4) = 11 ∨ (s.1 4) = 12 then ((d_Mo_assetAt 15 s).bind fun q3 => (if (0 : Int32) ≤ q3 then (some 0) else (some 5))) else (if (s.1 4) = 3 ∨ (s.1 4) = 4 then ((d_Mo_assetAt 15 s).bind fun q18 => (if (0 : Int32) ≤ q18 then ((d_Mo_memberAt 18 s).bind fun q30 => (if (0 : Int32) ≤ q30 then (some 0) else (some 4))) else (some 5))) else (if (s.1 4) = 5 then (l_Mo_codeFault_124 100000 0 s) else (if (s.1 4) = 6 ∨ (s.1 4) = 9 ∨ (s.1 4) = 10 then ((d_Mo_memberAt 15 s).bind fun q88 => (if (0 : Int32) ≤ q88 then (some 0) else (some 4))) else (some 0))))
set_option maxHeartbeats 4000000 in
set_option maxRecDepth 100000 in
theorem k_Mo_codeFault  (s : mS) (h0 : am_H) (hM : RM s h0) (q : Int32) (hd : d_Mo_codeFault  s = some q) : am_Me am_Pr none 2 49 0 0 33 [.ref 22] h0 (am_is (some (.int q)) h0) := by
  refine am_enter (d := hd_Mo_codeFault) rfl (by decide +kernel) (Nat.le_of_ble_eq_true rfl) ?_
  show am_S _ _ _ _ _ _ _ (0, [some (.ref 22), none, none], [], h0, 0, 0) _
  unfold d_Mo_codeFault at hd
  refine am_steps ok_Mo_codeFault 1 (x' := (1, [some (.ref 22), none, none], [.ref 22], h0, 0, 0)) rfl (Nat.le_of_ble_eq_true rfl) (Nat.le_of_ble_eq_true rfl) ?_
  refine mr_get ok_Mo_codeFault rfl hM (v := .int (s.1 4)) rfl (pc' := 4) rfl (Nat.le_of_ble_eq_true rfl) (Nat.le_of_ble_eq_true rfl) ?_
  by_cases hc1 : (s.1 4) = 2 ∨ (s.1 4) = 11 ∨ (s.1 4) = 12
  · rw [if_pos hc1] at hd
    have KT2 : am_S am_Pr none 2 49 0 0 33 (64, [some (.ref 22), none, none], [], h0, 0, 0) (am_is (some (.int q)) h0) := by
      refine am_steps ok_Mo_codeFault 2 (x' := (67, [some (.ref 22), none, none], [.int 15, .ref 22], h0, 0, 0)) rfl (Nat.le_of_ble_eq_true rfl) (Nat.le_of_ble_eq_true rfl) ?_
      obtain ⟨q3, hq4, hd5⟩ := Option.bind_eq_some_iff.mp hd; clear hd; have hd := hd5; clear hd5
      refine ar_cv ok_Mo_codeFault hk_Mo_assetAt rfl rfl (As := [.int 15]) (ad := 22) (rest := []) rfl rfl hM.1 (Nat.le_of_ble_eq_true rfl) (k_Mo_assetAt 15 s h0 hM q3 hq4) (Nat.le_of_ble_eq_true rfl) (Nat.le_of_ble_eq_true rfl) (Nat.le_of_ble_eq_true rfl) (Nat.le_of_ble_eq_true rfl) (pc' := 70) rfl (fun r6 h8 z7 => ?_)
      obtain ⟨z12, z13⟩ := z7; subst z12; rw [z13]
      show am_S _ _ _ _ _ _ _ (70, [some (.ref 22), none, none], [.int q3], h0, 0, 0) _
      refine am_steps ok_Mo_codeFault 1 (x' := (if (0 : Int32) ≤ q3 then 77 else 73, [some (.ref 22), none, none], [], h0, 0, 0)) rfl (Nat.le_of_ble_eq_true rfl) (Nat.le_of_ble_eq_true rfl) ?_
      refine am_if (fun hc14 => ?_) (fun hc14 => ?_)
      · rw [if_pos hc14] at hd
        refine am_steps ok_Mo_codeFault 1 (x' := (78, [some (.ref 22), none, none], [.int 0], h0, 0, 0)) rfl (Nat.le_of_ble_eq_true rfl) (Nat.le_of_ble_eq_true rfl) ?_
        cases hd; exact am_ret ok_Mo_codeFault rfl (Nat.le_of_ble_eq_true rfl) (Nat.le_of_ble_eq_true rfl) ⟨rfl, rfl⟩
      · rw [if_neg hc14] at hd
        refine am_steps ok_Mo_codeFault 2 (x' := (78, [some (.ref 22), none, none], [.int 5], h0, 0, 0)) rfl (Nat.le_of_ble_eq_true rfl) (Nat.le_of_ble_eq_true rfl) ?_
        cases hd; exact am_ret ok_Mo_codeFault rfl (Nat.le_of_ble_eq_true rfl) (Nat.le_of_ble_eq_true rfl) ⟨rfl, rfl⟩
    rcases hc1 with hv15 | hv15 | hv15
    · exact ar_tswk ok_Mo_codeFault rfl hv15 (by decide +kernel) rfl rfl (Nat.le_of_ble_eq_true rfl) (Nat.le_of_ble_eq_true rfl) KT2
    · exact ar_tswk ok_Mo_codeFault rfl hv15 (by decide +kernel) rfl rfl (Nat.le_of_ble_eq_true rfl) (Nat.le_of_ble_eq_true rfl) KT2
    · exact ar_tswk ok_Mo_codeFault rfl hv15 (by decide +kernel) rfl rfl (Nat.le_of_ble_eq_true rfl) (Nat.le_of_ble_eq_true rfl) KT2
  rw [if_neg hc1] at hd
  by_cases hc16 : (s.1 4) = 3 ∨ (s.1 4) = 4
  · rw [if_pos hc16] at hd
    have KT17 : am_S am_Pr none 2 49 0 0 33 (79, [some (.ref 22), none, none], [], h0, 0, 0) (am_is (some (.int q)) h0) := by
      refine am_steps ok_Mo_codeFault 2 (x' := (82, [some (.ref 22), none, none], [.int 15, .ref 22], h0, 0, 0)) rfl (Nat.le_of_ble_eq_true rfl) (Nat.le_of_ble_eq_true rfl) ?_
      obtain ⟨q18, hq19, hd20⟩ := Option.bind_eq_some_iff.mp hd; clear hd; have hd := hd20; clear hd20
      refine ar_cv ok_Mo_codeFault hk_Mo_assetAt rfl rfl (As := [.int 15]) (ad := 22) (rest := []) rfl rfl hM.1 (Nat.le_of_ble_eq_true rfl) (k_Mo_assetAt 15 s h0 hM q18 hq19) (Nat.le_of_ble_eq_true rfl) (Nat.le_of_ble_eq_true rfl) (Nat.le_of_ble_eq_true rfl) (Nat.le_of_ble_eq_true rfl) (pc' := 85) rfl (fun r21 h23 z22 => ?_)
      obtain ⟨z27, z28⟩ := z22; subst z27; rw [z28]
      show am_S _ _ _ _ _ _ _ (85, [some (.ref 22), none, none], [.int q18], h0, 0, 0) _
      refine am_steps ok_Mo_codeFault 1 (x' := (if (0 : Int32) ≤ q18 then 92 else 88, [some (.ref 22), none, none], [], h0, 0, 0)) rfl (Nat.le_of_ble_eq_true rfl) (Nat.le_of_ble_eq_true rfl) ?_
      refine am_if (fun hc29 => ?_) (fun hc29 => ?_)
      · rw [if_pos hc29] at hd
        refine am_steps ok_Mo_codeFault 2 (x' := (95, [some (.ref 22), none, none], [.int 18, .ref 22], h0, 0, 0)) rfl (Nat.le_of_ble_eq_true rfl) (Nat.le_of_ble_eq_true rfl) ?_
        obtain ⟨q30, hq31, hd32⟩ := Option.bind_eq_some_iff.mp hd; clear hd; have hd := hd32; clear hd32
        refine ar_cv ok_Mo_codeFault hk_Mo_memberAt rfl rfl (As := [.int 18]) (ad := 22) (rest := []) rfl rfl hM.1 (Nat.le_of_ble_eq_true rfl) (k_Mo_memberAt 18 s h0 hM q30 hq31) (Nat.le_of_ble_eq_true rfl) (Nat.le_of_ble_eq_true rfl) (Nat.le_of_ble_eq_true rfl) (Nat.le_of_ble_eq_true rfl) (pc' := 98) rfl (fun r33 h35 z34 => ?_)
        obtain ⟨z39, z40⟩ := z34; subst z39; rw [z40]
        show am_S _ _ _ _ _ _ _ (98, [some (.ref 22), none, none], [.int q30], h0, 0, 0) _
        refine am_steps ok_Mo_codeFault 1 (x' := (if (0 : Int32) ≤ q30 then 105 else 101, [some (.ref 22), none, none], [], h0, 0, 0)) rfl (Nat.le_of_ble_eq_true rfl) (Nat.le_of_ble_eq_true rfl) ?_
        refine am_if (fun hc41 => ?_) (fun hc41 => ?_)
        · rw [if_pos hc41] at hd
          refine am_steps ok_Mo_codeFault 1 (x' := (106, [some (.ref 22), none, none], [.int 0], h0, 0, 0)) rfl (Nat.le_of_ble_eq_true rfl) (Nat.le_of_ble_eq_true rfl) ?_
          cases hd; exact am_ret ok_Mo_codeFault rfl (Nat.le_of_ble_eq_true rfl) (Nat.le_of_ble_eq_true rfl) ⟨rfl, rfl⟩
        · rw [if_neg hc41] at hd
          refine am_steps ok_Mo_codeFault 2 (x' := (106, [some (.ref 22), none, none], [.int 4], h0, 0, 0)) rfl (Nat.le_of_ble_eq_true rfl) (Nat.le_of_ble_eq_true rfl) ?_
          cases hd; exact am_ret ok_Mo_codeFault rfl (Nat.le_of_ble_eq_true rfl) (Nat.le_of_ble_eq_true rfl) ⟨rfl, rfl⟩
      · rw [if_neg hc29] at hd
        refine am_steps ok_Mo_codeFault 2 (x' := (106, [some (.ref 22), none, none], [.int 5], h0, 0, 0)) rfl (Nat.le_of_ble_eq_true rfl) (Nat.le_of_ble_eq_true rfl) ?_
        cases hd; exact am_ret ok_Mo_codeFault rfl (Nat.le_of_ble_eq_true rfl) (Nat.le_of_ble_eq_true rfl) ⟨rfl, rfl⟩
    rcases hc16 with hv42 | hv42
    · exact ar_tswk ok_Mo_codeFault rfl hv42 (by decide +kernel) rfl rfl (Nat.le_of_ble_eq_true rfl) (Nat.le_of_ble_eq_true rfl) KT17
    · exact ar_tswk ok_Mo_codeFault rfl hv42 (by decide +kernel) rfl rfl (Nat.le_of_ble_eq_true rfl) (Nat.le_of_ble_eq_true rfl) KT17
  rw [if_neg hc16] at hd
  by_cases hc43 : (s.1 4) = 5
  · rw [if_pos hc43] at hd
    have KT44 : am_S am_Pr none 2 49 0 0 33 (122, [some (.ref 22), none, none], [], h0, 0, 0) (am_is (some (.int q)) h0) := by
      refine am_steps ok_Mo_codeFault 2 (x' := (124, [some (.ref 22), some (.int 0), none], [], h0, 0, 0)) rfl (Nat.le_of_ble_eq_true rfl) (Nat.le_of_ble_eq_true rfl) ?_
      exact L_Mo_codeFault_124 s h0 hM 100000 0 q hd
    exact ar_tswk ok_Mo_codeFault rfl hc43 (by decide +kernel) rfl rfl (Nat.le_of_ble_eq_true rfl) (Nat.le_of_ble_eq_true rfl) KT44
  rw [if_neg hc43] at hd
  by_cases hc86 : (s.1 4) = 6 ∨ (s.1 4) = 9 ∨ (s.1 4) = 10
  · rw [if_pos hc86] at hd
    have KT87 : am_S am_Pr none 2 49 0 0 33 (107, [some (.ref 22), none, none], [], h0, 0, 0) (am_is (some (.int q)) h0) := by
      refine am_steps ok_Mo_codeFault 2 (x' := (110, [some (.ref 22), none, none], [.int 15, .ref 22], h0, 0, 0)) rfl (Nat.le_of_ble_eq_true rfl) (Nat.le_of_ble_eq_true rfl) ?_
      obtain ⟨q88, hq89, hd90⟩ := Option.bind_eq_some_iff.mp hd; clear hd; have hd := hd90; clear hd90
      refine ar_cv ok_Mo_codeFault hk_Mo_memberAt rfl rfl (As := [.int 15]) (ad := 22) (rest := []) rfl rfl hM.1 (Nat.le_of_ble_eq_true rfl) (k_Mo_memberAt 15 s h0 hM q88 hq89) (Nat.le_of_ble_eq_true rfl) (Nat.le_of_ble_eq_true rfl) (Nat.le_of_ble_eq_true rfl) (Nat.le_of_ble_eq_true rfl) (pc' := 113) rfl (fun r91 h93 z92 => ?_)
      obtain ⟨z97, z98⟩ := z92; subst z97; rw [z98]
      show am_S _ _ _ _ _ _ _ (113, [some (.ref 22), none, none], [.int q88], h0, 0, 0) _
      refine am_steps ok_Mo_codeFault 1 (x' := (if (0 : Int32) ≤ q88 then 120 else 116, [some (.ref 22), none, none], [], h0, 0, 0)) rfl (Nat.le_of_ble_eq_true rfl) (Nat.le_of_ble_eq_true rfl) ?_
      refine am_if (fun hc99 => ?_) (fun hc99 => ?_)
      · rw [if_pos hc99] at hd
        refine am_steps ok_Mo_codeFault 1 (x' := (121, [some (.ref 22), none, none], [.int 0], h0, 0, 0)) rfl (Nat.le_of_ble_eq_true rfl) (Nat.le_of_ble_eq_true rfl) ?_
        cases hd; exact am_ret ok_Mo_codeFault rfl (Nat.le_of_ble_eq_true rfl) (Nat.le_of_ble_eq_true rfl) ⟨rfl, rfl⟩
      · rw [if_neg hc99] at hd
        refine am_steps ok_Mo_codeFault 2 (x' := (121, [some (.ref 22), none, none], [.int 4], h0, 0, 0)) rfl (Nat.le_of_ble_eq_true rfl) (Nat.le_of_ble_eq_true rfl) ?_
        cases hd; exact am_ret ok_Mo_codeFault rfl (Nat.le_of_ble_eq_true rfl) (Nat.le_of_ble_eq_true rfl) ⟨rfl, rfl⟩
    rcases hc86 with hv100 | hv100 | hv100
    · exact ar_tswk ok_Mo_codeFault rfl hv100 (by decide +kernel) rfl rfl (Nat.le_of_ble_eq_true rfl) (Nat.le_of_ble_eq_true rfl) KT87
    · exact ar_tswk ok_Mo_codeFault rfl hv100 (by decide +kernel) rfl rfl (Nat.le_of_ble_eq_true rfl) (Nat.le_of_ble_eq_true rfl) KT87
    · exact ar_tswk ok_Mo_codeFault rfl hv100 (by decide +kernel) rfl rfl (Nat.le_of_ble_eq_true rfl) (Nat.le_of_ble_eq_true rfl) KT87
  rw [if_neg hc86] at hd
  have KT101 : am_S am_Pr none 2 49 0 0 33 (187, [some (.ref 22), none, none], [], h0, 0, 0) (am_is (some (.int q)) h0) := by
    refine am_steps ok_Mo_codeFault 1 (x' := (188, [some (.ref 22), none, none], [.int 0], h0, 0, 0)) rfl (Nat.le_of_ble_eq_true rfl) (Nat.le_of_ble_eq_true rfl) ?_
    cases hd; exact am_ret ok_Mo_codeFault rfl (Nat.le_of_ble_eq_true rfl) (Nat.le_of_ble_eq_true rfl) ⟨rfl, rfl⟩
  by_cases hc102 : (s.1 4) = 7
  · exact ar_tswk ok_Mo_codeFault rfl hc102 (by decide +kernel) rfl rfl (Nat.le_of_ble_eq_true rfl) (Nat.le_of_ble_eq_true rfl) KT101
  by_cases hc103 : (s.1 4) = 8
  · exact ar_tswk ok_Mo_codeFault rfl hc103 (by decide +kernel) rfl rfl (Nat.le_of_ble_eq_true rfl) (Nat.le_of_ble_eq_true rfl) KT101
  have ho108 : (s.1 4).toInt < 2 ∨ 12 < (s.1 4).toInt := tsw_out (fun c105 h106 h107 e104 => by
    have c105x : c105 = 2 ∨ c105 = 3 ∨ c105 = 4 ∨ c105 = 5 ∨ c105 = 6 ∨ c105 = 7 ∨ c105 = 8 ∨ c105 = 9 ∨ c105 = 10 ∨ c105 = 11 ∨ c105 = 12 := by omega
    rcases c105x with rfl | rfl | rfl | rfl | rfl | rfl | rfl | rfl | rfl | rfl | rfl
    · exact hc1 (Or.inl e104)
    · exact hc16 (Or.inl e104)
    · exact hc16 (Or.inr e104)
    · exact hc43 e104
    · exact hc86 (Or.inl e104)
    · exact hc102 e104
    · exact hc103 e104
    · exact hc86 (Or.inr (Or.inl e104))
    · exact hc86 (Or.inr (Or.inr e104))
    · exact hc1 (Or.inr (Or.inl e104))
    · exact hc1 (Or.inr (Or.inr e104)))
  exact ar_tsw ok_Mo_codeFault rfl ho108 rfl (Nat.le_of_ble_eq_true rfl) (Nat.le_of_ble_eq_true rfl) KT101
def d_Mo_ofBank  (s : mS) : Option (Int32) := if ((s.1 4) : Int32) ≤ 4 then (some 1) else (if ¬ ((s.1 4) : Int32) = 13 then (some 0) else (some 1))
set_option maxHeartbeats 4000000 in
set_option maxRecDepth 100000 in
theorem k_Mo_ofBank  (s : mS) (h0 : am_H) (hM : RM s h0) (q : Int32) (hd : d_Mo_ofBank  s = some q) : am_Me am_Pr none 0 0 0 0 34 [.ref 22] h0 (am_is (some (.int q)) h0) := by
  refine am_enter (d := hd_Mo_ofBank) rfl (by decide +kernel) (Nat.le_of_ble_eq_true rfl) ?_
  show am_S _ _ _ _ _ _ _ (0, [some (.ref 22)], [], h0, 0, 0) _
  unfold d_Mo_ofBank at hd
  refine am_steps ok_Mo_ofBank 1 (x' := (1, [some (.ref 22)], [.ref 22], h0, 0, 0)) rfl (Nat.le_of_ble_eq_true rfl) (Nat.le_of_ble_eq_true rfl) ?_
  refine mr_get ok_Mo_ofBank rfl hM (v := .int (s.1 4)) rfl (pc' := 4) rfl (Nat.le_of_ble_eq_true rfl) (Nat.le_of_ble_eq_true rfl) ?_
  refine am_steps ok_Mo_ofBank 2 (x' := (if ((s.1 4) : Int32) ≤ 4 then 17 else 8, [some (.ref 22)], [], h0, 0, 0)) rfl (Nat.le_of_ble_eq_true rfl) (Nat.le_of_ble_eq_true rfl) ?_
  refine am_if (fun hc1 => ?_) (fun hc1 => ?_)
  · rw [if_pos hc1] at hd
    refine am_steps ok_Mo_ofBank 2 (x' := (22, [some (.ref 22)], [.int 1], h0, 0, 0)) rfl (Nat.le_of_ble_eq_true rfl) (Nat.le_of_ble_eq_true rfl) ?_
    cases hd; exact am_ret ok_Mo_ofBank rfl (Nat.le_of_ble_eq_true rfl) (Nat.le_of_ble_eq_true rfl) ⟨rfl, rfl⟩
  · rw [if_neg hc1] at hd
    refine am_steps ok_Mo_ofBank 1 (x' := (9, [some (.ref 22)], [.ref 22], h0, 0, 0)) rfl (Nat.le_of_ble_eq_true rfl) (Nat.le_of_ble_eq_true rfl) ?_
    refine mr_get ok_Mo_ofBank rfl hM (v := .int (s.1 4)) rfl (pc' := 12) rfl (Nat.le_of_ble_eq_true rfl) (Nat.le_of_ble_eq_true rfl) ?_
    refine am_steps ok_Mo_ofBank 2 (x' := (if ¬ ((s.1 4) : Int32) = 13 then 21 else 17, [some (.ref 22)], [], h0, 0, 0)) rfl (Nat.le_of_ble_eq_true rfl) (Nat.le_of_ble_eq_true rfl) ?_
    refine am_if (fun hc2 => ?_) (fun hc2 => ?_)
    · rw [if_pos hc2] at hd
      refine am_steps ok_Mo_ofBank 1 (x' := (22, [some (.ref 22)], [.int 0], h0, 0, 0)) rfl (Nat.le_of_ble_eq_true rfl) (Nat.le_of_ble_eq_true rfl) ?_
      cases hd; exact am_ret ok_Mo_ofBank rfl (Nat.le_of_ble_eq_true rfl) (Nat.le_of_ble_eq_true rfl) ⟨rfl, rfl⟩
    · rw [if_neg hc2] at hd
      refine am_steps ok_Mo_ofBank 2 (x' := (22, [some (.ref 22)], [.int 1], h0, 0, 0)) rfl (Nat.le_of_ble_eq_true rfl) (Nat.le_of_ble_eq_true rfl) ?_
      cases hd; exact am_ret ok_Mo_ofBank rfl (Nat.le_of_ble_eq_true rfl) (Nat.le_of_ble_eq_true rfl) ⟨rfl, rfl⟩
def d_Mo_isKept  (s : mS) : Option (Int32) := if ((s.1 4) : Int32) = 13 then (some 0) else (if ((s.1 4) : Int32) = 14 then (some 0) else (some 1))
set_option maxHeartbeats 4000000 in
set_option maxRecDepth 100000 in
theorem k_Mo_isKept  (s : mS) (h0 : am_H) (hM : RM s h0) (q : Int32) (hd : d_Mo_isKept  s = some q) : am_Me am_Pr none 0 0 0 0 35 [.ref 22] h0 (am_is (some (.int q)) h0) := by
  refine am_enter (d := hd_Mo_isKept) rfl (by decide +kernel) (Nat.le_of_ble_eq_true rfl) ?_
  show am_S _ _ _ _ _ _ _ (0, [some (.ref 22)], [], h0, 0, 0) _
  unfold d_Mo_isKept at hd
  refine am_steps ok_Mo_isKept 1 (x' := (1, [some (.ref 22)], [.ref 22], h0, 0, 0)) rfl (Nat.le_of_ble_eq_true rfl) (Nat.le_of_ble_eq_true rfl) ?_
  refine mr_get ok_Mo_isKept rfl hM (v := .int (s.1 4)) rfl (pc' := 4) rfl (Nat.le_of_ble_eq_true rfl) (Nat.le_of_ble_eq_true rfl) ?_
  refine am_steps ok_Mo_isKept 2 (x' := (if ((s.1 4) : Int32) = 13 then 22 else 9, [some (.ref 22)], [], h0, 0, 0)) rfl (Nat.le_of_ble_eq_true rfl) (Nat.le_of_ble_eq_true rfl) ?_
  refine am_if (fun hc1 => ?_) (fun hc1 => ?_)
  · rw [if_pos hc1] at hd
    refine am_steps ok_Mo_isKept 1 (x' := (23, [some (.ref 22)], [.int 0], h0, 0, 0)) rfl (Nat.le_of_ble_eq_true rfl) (Nat.le_of_ble_eq_true rfl) ?_
    cases hd; exact am_ret ok_Mo_isKept rfl (Nat.le_of_ble_eq_true rfl) (Nat.le_of_ble_eq_true rfl) ⟨rfl, rfl⟩
  · rw [if_neg hc1] at hd
    refine am_steps ok_Mo_isKept 1 (x' := (10, [some (.ref 22)], [.ref 22], h0, 0, 0)) rfl (Nat.le_of_ble_eq_true rfl) (Nat.le_of_ble_eq_true rfl) ?_
    refine mr_get ok_Mo_isKept rfl hM (v := .int (s.1 4)) rfl (pc' := 13) rfl (Nat.le_of_ble_eq_true rfl) (Nat.le_of_ble_eq_true rfl) ?_
    refine am_steps ok_Mo_isKept 2 (x' := (if ((s.1 4) : Int32) = 14 then 22 else 18, [some (.ref 22)], [], h0, 0, 0)) rfl (Nat.le_of_ble_eq_true rfl) (Nat.le_of_ble_eq_true rfl) ?_
    refine am_if (fun hc2 => ?_) (fun hc2 => ?_)
    · rw [if_pos hc2] at hd
      refine am_steps ok_Mo_isKept 1 (x' := (23, [some (.ref 22)], [.int 0], h0, 0, 0)) rfl (Nat.le_of_ble_eq_true rfl) (Nat.le_of_ble_eq_true rfl) ?_
      cases hd; exact am_ret ok_Mo_isKept rfl (Nat.le_of_ble_eq_true rfl) (Nat.le_of_ble_eq_true rfl) ⟨rfl, rfl⟩
    · rw [if_neg hc2] at hd
      refine am_steps ok_Mo_isKept 2 (x' := (23, [some (.ref 22)], [.int 1], h0, 0, 0)) rfl (Nat.le_of_ble_eq_true rfl) (Nat.le_of_ble_eq_true rfl) ?_
      cases hd; exact am_ret ok_Mo_isKept rfl (Nat.le_of_ble_eq_true rfl) (Nat.le_of_ble_eq_true rfl) ⟨rfl, rfl⟩
def l_Mo_textOf_3 : Nat → Int32 → Int64 → Int32 → mS → Option (Int32)
  | 0, _, _, _, _ => none
  | fu + 1, v1, v2, v4, s => if ((s.1 30) : Int32) ≤ v4 then (some (-1)) else ((am_ix v4 2000).bind fun j2 => (if ¬ ((s.2.2.1 41 j2) : Int32) = v1 then (l_Mo_textOf_3 fu v1 v2 (v4 + 1) s) else (if ¬ ((lg_cmp (s.2.2.2 42 j2) v2) : Int32) = 0 then (l_Mo_textOf_3 fu v1 v2 (v4 + 1) s) else (some v4))))
set_option maxHeartbeats 4000000 in
set_option maxRecDepth 100000 in
theorem L_Mo_textOf_3 (s : mS) (h : am_H) (hM : RM s h) : ∀ (fu : Nat) (v1 : Int32) (v2 : Int64) (v4 : Int32) (q : Int32), l_Mo_textOf_3 fu v1 v2 v4 s = some q → am_S am_Pr none 0 0 0 0 36 (3, [some (.ref 22), some (.int v1), some (.long v2), none, some (.int v4)], [], h, 0, 0) (am_is (some (.int q)) h) := by
  intro fu
  induction fu with
  | zero => intro v1 v2 v4 q hd; cases hd
  | succ fu ih =>
    intro v1 v2 v4 q hd
    unfold l_Mo_textOf_3 at hd
    refine am_steps ok_Mo_textOf 2 (x' := (6, [some (.ref 22), some (.int v1), some (.long v2), none, some (.int v4)], [.ref 22, .int v4], h, 0, 0)) rfl (Nat.le_of_ble_eq_true rfl) (Nat.le_of_ble_eq_true rfl) ?_
    refine mr_get ok_Mo_textOf rfl hM (v := .int (s.1 30)) rfl (pc' := 9) rfl (Nat.le_of_ble_eq_true rfl) (Nat.le_of_ble_eq_true rfl) ?_
    refine am_steps ok_Mo_textOf 1 (x' := (if ((s.1 30) : Int32) ≤ v4 then 44 else 12, [some (.ref 22), some (.int v1), some (.long v2), none, some (.int v4)], [], h, 0, 0)) rfl (Nat.le_of_ble_eq_true rfl) (Nat.le_of_ble_eq_true rfl) ?_
    refine am_if (fun hc1 => ?_) (fun hc1 => ?_)
    · rw [if_pos hc1] at hd
      refine am_steps ok_Mo_textOf 1 (x' := (45, [some (.ref 22), some (.int v1), some (.long v2), none, some (.int v4)], [.int (-1)], h, 0, 0)) rfl (Nat.le_of_ble_eq_true rfl) (Nat.le_of_ble_eq_true rfl) ?_
      cases hd; exact am_ret ok_Mo_textOf rfl (Nat.le_of_ble_eq_true rfl) (Nat.le_of_ble_eq_true rfl) ⟨rfl, rfl⟩
    · rw [if_neg hc1] at hd
      refine am_steps ok_Mo_textOf 1 (x' := (13, [some (.ref 22), some (.int v1), some (.long v2), none, some (.int v4)], [.ref 22], h, 0, 0)) rfl (Nat.le_of_ble_eq_true rfl) (Nat.le_of_ble_eq_true rfl) ?_
      refine mr_get ok_Mo_textOf rfl hM (v := .ref 41) rfl (pc' := 16) rfl (Nat.le_of_ble_eq_true rfl) (Nat.le_of_ble_eq_true rfl) ?_
      refine am_steps ok_Mo_textOf 1 (x' := (18, [some (.ref 22), some (.int v1), some (.long v2), none, some (.int v4)], [.int v4, .ref 41], h, 0, 0)) rfl (Nat.le_of_ble_eq_true rfl) (Nat.le_of_ble_eq_true rfl) ?_
      obtain ⟨j2, hx3, hd4⟩ := Option.bind_eq_some_iff.mp hd; clear hd; have hd := hd4; clear hd4
      refine mr_iald ok_Mo_textOf rfl hM (N := 2000) (by decide) hx3 (pc' := 19) rfl (Nat.le_of_ble_eq_true rfl) (Nat.le_of_ble_eq_true rfl) ?_
      refine am_steps ok_Mo_textOf 2 (x' := (if ¬ ((s.2.2.1 41 j2) : Int32) = v1 then 38 else 23, [some (.ref 22), some (.int v1), some (.long v2), none, some (.int v4)], [], h, 0, 0)) rfl (Nat.le_of_ble_eq_true rfl) (Nat.le_of_ble_eq_true rfl) ?_
      refine am_if (fun hc5 => ?_) (fun hc5 => ?_)
      · rw [if_pos hc5] at hd
        refine am_steps ok_Mo_textOf 2 (x' := (3, [some (.ref 22), some (.int v1), some (.long v2), none, some (.int (v4 + 1))], [], h, 0, 0)) rfl (Nat.le_of_ble_eq_true rfl) (Nat.le_of_ble_eq_true rfl) ?_
        exact ih v1 v2 (v4 + 1) q hd
      · rw [if_neg hc5] at hd
        refine am_steps ok_Mo_textOf 1 (x' := (24, [some (.ref 22), some (.int v1), some (.long v2), none, some (.int v4)], [.ref 22], h, 0, 0)) rfl (Nat.le_of_ble_eq_true rfl) (Nat.le_of_ble_eq_true rfl) ?_
        refine mr_get ok_Mo_textOf rfl hM (v := .ref 42) rfl (pc' := 27) rfl (Nat.le_of_ble_eq_true rfl) (Nat.le_of_ble_eq_true rfl) ?_
        refine am_steps ok_Mo_textOf 1 (x' := (29, [some (.ref 22), some (.int v1), some (.long v2), none, some (.int v4)], [.int v4, .ref 42], h, 0, 0)) rfl (Nat.le_of_ble_eq_true rfl) (Nat.le_of_ble_eq_true rfl) ?_
        refine mr_lald ok_Mo_textOf rfl hM (N := 2000) (by decide) hx3 (pc' := 30) rfl (Nat.le_of_ble_eq_true rfl) (Nat.le_of_ble_eq_true rfl) ?_
        refine am_steps ok_Mo_textOf 3 (x' := (if ¬ ((lg_cmp (s.2.2.2 42 j2) v2) : Int32) = 0 then 38 else 35, [some (.ref 22), some (.int v1), some (.long v2), none, some (.int v4)], [], h, 0, 0)) rfl (Nat.le_of_ble_eq_true rfl) (Nat.le_of_ble_eq_true rfl) ?_
        refine am_if (fun hc6 => ?_) (fun hc6 => ?_)
        · rw [if_pos hc6] at hd
          refine am_steps ok_Mo_textOf 2 (x' := (3, [some (.ref 22), some (.int v1), some (.long v2), none, some (.int (v4 + 1))], [], h, 0, 0)) rfl (Nat.le_of_ble_eq_true rfl) (Nat.le_of_ble_eq_true rfl) ?_
          exact ih v1 v2 (v4 + 1) q hd
        · rw [if_neg hc6] at hd
          refine am_steps ok_Mo_textOf 1 (x' := (37, [some (.ref 22), some (.int v1), some (.long v2), none, some (.int v4)], [.int v4], h, 0, 0)) rfl (Nat.le_of_ble_eq_true rfl) (Nat.le_of_ble_eq_true rfl) ?_
          cases hd; exact am_ret ok_Mo_textOf rfl (Nat.le_of_ble_eq_true rfl) (Nat.le_of_ble_eq_true rfl) ⟨rfl, rfl⟩
def d_Mo_textOf (a : Int32) (b : Int64) (s : mS) : Option (Int32) := l_Mo_textOf_3 100000 a b 0 s
set_option maxHeartbeats 4000000 in
set_option maxRecDepth 100000 in
theorem k_Mo_textOf (a : Int32) (b : Int64) (s : mS) (h0 : am_H) (hM : RM s h0) (q : Int32) (hd : d_Mo_textOf a b s = some q) : am_Me am_Pr none 0 0 0 0 36 [.ref 22, .int a, .long b] h0 (am_is (some (.int q)) h0) := by
  refine am_enter (d := hd_Mo_textOf) rfl (by decide +kernel) (Nat.le_of_ble_eq_true rfl) ?_
  show am_S _ _ _ _ _ _ _ (0, [some (.ref 22), some (.int a), some (.long b), none, none], [], h0, 0, 0) _
  unfold d_Mo_textOf at hd
  refine am_steps ok_Mo_textOf 2 (x' := (3, [some (.ref 22), some (.int a), some (.long b), none, some (.int 0)], [], h0, 0, 0)) rfl (Nat.le_of_ble_eq_true rfl) (Nat.le_of_ble_eq_true rfl) ?_
  exact L_Mo_textOf_3 s h0 hM 100000 a b 0 q hd
def l_Mo_isVery_21 : Nat → Int32 → Int32 → Int32 → mS → Option (Int32)
  | 0, _, _, _, _ => none
  | fu + 1, v1, v2, v3, s => if ((s.1 3) : Int32) ≤ v3 then (some v2) else (if (v2 : Int32) = 0 then (some v2) else ((am_ix ((123 * v1) + v3) 246000).bind fun j10 => ((am_ix v3 400).bind fun j13 => ((if ¬ ((s.2.2.1 39 j10) : Int32) = (s.2.2.1 24 j13) then (some 0) else (some 1)).bind fun (u16 : Int32) => (l_Mo_isVery_21 fu v1 u16 (v3 + 1) s)))))
set_option maxHeartbeats 4000000 in
set_option maxRecDepth 100000 in
theorem L_Mo_isVery_21 {Q : Option Value → am_H → Prop} (s : mS) (h : am_H) (hM : RM s h) : ∀ (fu : Nat) (v1 : Int32) (v2 : Int32) (v3 : Int32) (q : Int32), l_Mo_isVery_21 fu v1 v2 v3 s = some q → am_S am_Pr none 0 0 0 0 37 (65, [some (.ref 22), some (.int v1), some (.int q), none], [], h, 0, 0) Q → am_S am_Pr none 0 0 0 0 37 (21, [some (.ref 22), some (.int v1), some (.int v2), some (.int v3)], [], h, 0, 0) Q := by
  intro fu
  induction fu with
  | zero => intro v1 v2 v3 q hd; cases hd
  | succ fu ih =>
    intro v1 v2 v3 q hd kk
    unfold l_Mo_isVery_21 at hd
    refine am_steps ok_Mo_isVery 2 (x' := (23, [some (.ref 22), some (.int v1), some (.int v2), some (.int v3)], [.ref 22, .int v3], h, 0, 0)) rfl (Nat.le_of_ble_eq_true rfl) (Nat.le_of_ble_eq_true rfl) ?_
    refine mr_get ok_Mo_isVery rfl hM (v := .int (s.1 3)) rfl (pc' := 26) rfl (Nat.le_of_ble_eq_true rfl) (Nat.le_of_ble_eq_true rfl) ?_
    refine am_steps ok_Mo_isVery 1 (x' := (if ((s.1 3) : Int32) ≤ v3 then 65 else 29, [some (.ref 22), some (.int v1), some (.int v2), some (.int v3)], [], h, 0, 0)) rfl (Nat.le_of_ble_eq_true rfl) (Nat.le_of_ble_eq_true rfl) ?_
    refine am_if (fun hc8 => ?_) (fun hc8 => ?_)
    · rw [if_pos hc8] at hd
      refine am_drop 3 ?_
      cases hd; exact kk
    · rw [if_neg hc8] at hd
      refine am_steps ok_Mo_isVery 2 (x' := (if (v2 : Int32) = 0 then 65 else 33, [some (.ref 22), some (.int v1), some (.int v2), some (.int v3)], [], h, 0, 0)) rfl (Nat.le_of_ble_eq_true rfl) (Nat.le_of_ble_eq_true rfl) ?_
      refine am_if (fun hc9 => ?_) (fun hc9 => ?_)
      · rw [if_pos hc9] at hd
        refine am_drop 3 ?_
        cases hd; exact kk
      · rw [if_neg hc9] at hd
        refine am_steps ok_Mo_isVery 1 (x' := (34, [some (.ref 22), some (.int v1), some (.int v2), some (.int v3)], [.ref 22], h, 0, 0)) rfl (Nat.le_of_ble_eq_true rfl) (Nat.le_of_ble_eq_true rfl) ?_
        refine mr_get ok_Mo_isVery rfl hM (v := .ref 39) rfl (pc' := 37) rfl (Nat.le_of_ble_eq_true rfl) (Nat.le_of_ble_eq_true rfl) ?_
        refine am_steps ok_Mo_isVery 5 (x' := (43, [some (.ref 22), some (.int v1), some (.int v2), some (.int v3)], [.int ((123 * v1) + v3), .ref 39], h, 0, 0)) rfl (Nat.le_of_ble_eq_true rfl) (Nat.le_of_ble_eq_true rfl) ?_
        obtain ⟨j10, hx11, hd12⟩ := Option.bind_eq_some_iff.mp hd; clear hd; have hd := hd12; clear hd12
        refine mr_bald ok_Mo_isVery rfl hM (N := 246000) (by decide) (Or.inl rfl) hx11 (pc' := 44) rfl (Nat.le_of_ble_eq_true rfl) (Nat.le_of_ble_eq_true rfl) ?_
        refine am_steps ok_Mo_isVery 1 (x' := (45, [some (.ref 22), some (.int v1), some (.int v2), some (.int v3)], [.ref 22, .int (s.2.2.1 39 j10)], h, 0, 0)) rfl (Nat.le_of_ble_eq_true rfl) (Nat.le_of_ble_eq_true rfl) ?_
        refine mr_get ok_Mo_isVery rfl hM (v := .ref 24) rfl (pc' := 48) rfl (Nat.le_of_ble_eq_true rfl) (Nat.le_of_ble_eq_true rfl) ?_
        refine am_steps ok_Mo_isVery 1 (x' := (49, [some (.ref 22), some (.int v1), some (.int v2), some (.int v3)], [.int v3, .ref 24, .int (s.2.2.1 39 j10)], h, 0, 0)) rfl (Nat.le_of_ble_eq_true rfl) (Nat.le_of_ble_eq_true rfl) ?_
        obtain ⟨j13, hx14, hd15⟩ := Option.bind_eq_some_iff.mp hd; clear hd; have hd := hd15; clear hd15
        refine mr_bald ok_Mo_isVery rfl hM (N := 400) (by decide) (Or.inl rfl) hx14 (pc' := 50) rfl (Nat.le_of_ble_eq_true rfl) (Nat.le_of_ble_eq_true rfl) ?_
        refine am_steps ok_Mo_isVery 1 (x' := (if ¬ ((s.2.2.1 39 j10) : Int32) = (s.2.2.1 24 j13) then 57 else 53, [some (.ref 22), some (.int v1), some (.int v2), some (.int v3)], [], h, 0, 0)) rfl (Nat.le_of_ble_eq_true rfl) (Nat.le_of_ble_eq_true rfl) ?_
        obtain ⟨u16, hA18, hB19⟩ := Option.bind_eq_some_iff.mp hd; clear hd
        have K17 : am_S am_Pr none 0 0 0 0 37 (58, [some (.ref 22), some (.int v1), none, some (.int v3)], [.int u16], h, 0, 0) Q := by
          have hd := hB19
          refine am_steps ok_Mo_isVery 3 (x' := (21, [some (.ref 22), some (.int v1), some (.int u16), some (.int (v3 + 1))], [], h, 0, 0)) rfl (Nat.le_of_ble_eq_true rfl) (Nat.le_of_ble_eq_true rfl) ?_
          exact ih v1 u16 (v3 + 1) q hd kk
        clear hB19; have hd := hA18; clear hA18
        refine am_if (fun hc20 => ?_) (fun hc20 => ?_)
        · rw [if_pos hc20] at hd
          refine am_steps ok_Mo_isVery 1 (x' := (58, [some (.ref 22), some (.int v1), some (.int v2), some (.int v3)], [.int 0], h, 0, 0)) rfl (Nat.le_of_ble_eq_true rfl) (Nat.le_of_ble_eq_true rfl) ?_
          refine am_drop 2 ?_
          cases hd; exact K17 
        · rw [if_neg hc20] at hd
          refine am_steps ok_Mo_isVery 2 (x' := (58, [some (.ref 22), some (.int v1), some (.int v2), some (.int v3)], [.int 1], h, 0, 0)) rfl (Nat.le_of_ble_eq_true rfl) (Nat.le_of_ble_eq_true rfl) ?_
          refine am_drop 2 ?_
          cases hd; exact K17 
def d_Mo_isVery (a : Int32) (s : mS) : Option (Int32) := (am_ix a 2000).bind fun j1 => ((if ¬ ((s.2.2.1 40 j1) : Int32) = (s.1 3) then (some 0) else (some 1)).bind fun (u4 : Int32) => ((l_Mo_isVery_21 100000 a u4 0 s).bind fun q21 => (if q21 = 0 ∨ q21 = 1 then some q21 else none)))
set_option maxHeartbeats 4000000 in
set_option maxRecDepth 100000 in
theorem k_Mo_isVery (a : Int32) (s : mS) (h0 : am_H) (hM : RM s h0) (q : Int32) (hd : d_Mo_isVery a s = some q) : am_Me am_Pr none 0 0 0 0 37 [.ref 22, .int a] h0 (am_is (some (.int q)) h0) := by
  refine am_enter (d := hd_Mo_isVery) rfl (by decide +kernel) (Nat.le_of_ble_eq_true rfl) ?_
  show am_S _ _ _ _ _ _ _ (0, [some (.ref 22), some (.int a), none, none], [], h0, 0, 0) _
  unfold d_Mo_isVery at hd
  refine am_steps ok_Mo_isVery 1 (x' := (1, [some (.ref 22), some (.int a), none, none], [.ref 22], h0, 0, 0)) rfl (Nat.le_of_ble_eq_true rfl) (Nat.le_of_ble_eq_true rfl) ?_
  refine mr_get ok_Mo_isVery rfl hM (v := .ref 40) rfl (pc' := 4) rfl (Nat.le_of_ble_eq_true rfl) (Nat.le_of_ble_eq_true rfl) ?_
  refine am_steps ok_Mo_isVery 1 (x' := (5, [some (.ref 22), some (.int a), none, none], [.int a, .ref 40], h0, 0, 0)) rfl (Nat.le_of_ble_eq_true rfl) (Nat.le_of_ble_eq_true rfl) ?_
  obtain ⟨j1, hx2, hd3⟩ := Option.bind_eq_some_iff.mp hd; clear hd; have hd := hd3; clear hd3
  refine mr_iald ok_Mo_isVery rfl hM (N := 2000) (by decide) hx2 (pc' := 6) rfl (Nat.le_of_ble_eq_true rfl) (Nat.le_of_ble_eq_true rfl) ?_
  refine am_steps ok_Mo_isVery 1 (x' := (7, [some (.ref 22), some (.int a), none, none], [.ref 22, .int (s.2.2.1 40 j1)], h0, 0, 0)) rfl (Nat.le_of_ble_eq_true rfl) (Nat.le_of_ble_eq_true rfl) ?_
  refine mr_get ok_Mo_isVery rfl hM (v := .int (s.1 3)) rfl (pc' := 10) rfl (Nat.le_of_ble_eq_true rfl) (Nat.le_of_ble_eq_true rfl) ?_
  refine am_steps ok_Mo_isVery 1 (x' := (if ¬ ((s.2.2.1 40 j1) : Int32) = (s.1 3) then 17 else 13, [some (.ref 22), some (.int a), none, none], [], h0, 0, 0)) rfl (Nat.le_of_ble_eq_true rfl) (Nat.le_of_ble_eq_true rfl) ?_
  obtain ⟨u4, hA6, hB7⟩ := Option.bind_eq_some_iff.mp hd; clear hd
  have K5 : am_S am_Pr none 0 0 0 0 37 (18, [some (.ref 22), some (.int a), none, none], [.int u4], h0, 0, 0) (am_is (some (.int q)) h0) := by
    have hd := hB7
    refine am_steps ok_Mo_isVery 3 (x' := (21, [some (.ref 22), some (.int a), some (.int u4), some (.int 0)], [], h0, 0, 0)) rfl (Nat.le_of_ble_eq_true rfl) (Nat.le_of_ble_eq_true rfl) ?_
    obtain ⟨q21, hq22, hd23⟩ := Option.bind_eq_some_iff.mp hd; clear hd; have hd := hd23; clear hd23
    refine L_Mo_isVery_21 s h0 hM 100000 a u4 0 q21 hq22 ?_
    show am_S _ _ _ _ _ _ _ (65, [some (.ref 22), some (.int a), some (.int q21), none], [], h0, 0, 0) _
    refine am_steps ok_Mo_isVery 1 (x' := (66, [some (.ref 22), some (.int a), some (.int q21), none], [.int q21], h0, 0, 0)) rfl (Nat.le_of_ble_eq_true rfl) (Nat.le_of_ble_eq_true rfl) ?_
    split at hd
    · rename_i hz; cases hd; exact am_ret ok_Mo_isVery (if_pos hz) (Nat.le_of_ble_eq_true rfl) (Nat.le_of_ble_eq_true rfl) ⟨rfl, rfl⟩
    · cases hd
  clear hB7; have hd := hA6; clear hA6
  refine am_if (fun hc24 => ?_) (fun hc24 => ?_)
  · rw [if_pos hc24] at hd
    refine am_steps ok_Mo_isVery 1 (x' := (18, [some (.ref 22), some (.int a), none, none], [.int 0], h0, 0, 0)) rfl (Nat.le_of_ble_eq_true rfl) (Nat.le_of_ble_eq_true rfl) ?_
    cases hd; exact K5 
  · rw [if_neg hc24] at hd
    refine am_steps ok_Mo_isVery 2 (x' := (18, [some (.ref 22), some (.int a), none, none], [.int 1], h0, 0, 0)) rfl (Nat.le_of_ble_eq_true rfl) (Nat.le_of_ble_eq_true rfl) ?_
    cases hd; exact K5 
def d_Mo_phase  (s : mS) : Option (Int32) := if (100 : Int32) ≤ (s.1 56) then (if (700 : Int32) ≤ (s.1 56) then (if (800 : Int32) ≤ (s.1 56) then (if (900 : Int32) ≤ (s.1 56) then (some 4) else (some 3)) else (some 2)) else (some 1)) else (some 0)
set_option maxHeartbeats 4000000 in
set_option maxRecDepth 100000 in
theorem k_Mo_phase  (s : mS) (h0 : am_H) (hM : RM s h0) (q : Int32) (hd : d_Mo_phase  s = some q) : am_Me am_Pr none 0 0 0 0 38 [.ref 22] h0 (am_is (some (.int q)) h0) := by
  refine am_enter (d := hd_Mo_phase) rfl (by decide +kernel) (Nat.le_of_ble_eq_true rfl) ?_
  show am_S _ _ _ _ _ _ _ (0, [some (.ref 22)], [], h0, 0, 0) _
  unfold d_Mo_phase at hd
  refine am_steps ok_Mo_phase 1 (x' := (1, [some (.ref 22)], [.ref 22], h0, 0, 0)) rfl (Nat.le_of_ble_eq_true rfl) (Nat.le_of_ble_eq_true rfl) ?_
  refine mr_get ok_Mo_phase rfl hM (v := .int (s.1 56)) rfl (pc' := 4) rfl (Nat.le_of_ble_eq_true rfl) (Nat.le_of_ble_eq_true rfl) ?_
  refine am_steps ok_Mo_phase 2 (x' := (if (100 : Int32) ≤ (s.1 56) then 13 else 9, [some (.ref 22)], [], h0, 0, 0)) rfl (Nat.le_of_ble_eq_true rfl) (Nat.le_of_ble_eq_true rfl) ?_
  refine am_if (fun hc1 => ?_) (fun hc1 => ?_)
  · rw [if_pos hc1] at hd
    refine am_steps ok_Mo_phase 1 (x' := (14, [some (.ref 22)], [.ref 22], h0, 0, 0)) rfl (Nat.le_of_ble_eq_true rfl) (Nat.le_of_ble_eq_true rfl) ?_
    refine mr_get ok_Mo_phase rfl hM (v := .int (s.1 56)) rfl (pc' := 17) rfl (Nat.le_of_ble_eq_true rfl) (Nat.le_of_ble_eq_true rfl) ?_
    refine am_steps ok_Mo_phase 2 (x' := (if (700 : Int32) ≤ (s.1 56) then 27 else 23, [some (.ref 22)], [], h0, 0, 0)) rfl (Nat.le_of_ble_eq_true rfl) (Nat.le_of_ble_eq_true rfl) ?_
    refine am_if (fun hc2 => ?_) (fun hc2 => ?_)
    · rw [if_pos hc2] at hd
      refine am_steps ok_Mo_phase 1 (x' := (28, [some (.ref 22)], [.ref 22], h0, 0, 0)) rfl (Nat.le_of_ble_eq_true rfl) (Nat.le_of_ble_eq_true rfl) ?_
      refine mr_get ok_Mo_phase rfl hM (v := .int (s.1 56)) rfl (pc' := 31) rfl (Nat.le_of_ble_eq_true rfl) (Nat.le_of_ble_eq_true rfl) ?_
      refine am_steps ok_Mo_phase 2 (x' := (if (800 : Int32) ≤ (s.1 56) then 41 else 37, [some (.ref 22)], [], h0, 0, 0)) rfl (Nat.le_of_ble_eq_true rfl) (Nat.le_of_ble_eq_true rfl) ?_
      refine am_if (fun hc3 => ?_) (fun hc3 => ?_)
      · rw [if_pos hc3] at hd
        refine am_steps ok_Mo_phase 1 (x' := (42, [some (.ref 22)], [.ref 22], h0, 0, 0)) rfl (Nat.le_of_ble_eq_true rfl) (Nat.le_of_ble_eq_true rfl) ?_
        refine mr_get ok_Mo_phase rfl hM (v := .int (s.1 56)) rfl (pc' := 45) rfl (Nat.le_of_ble_eq_true rfl) (Nat.le_of_ble_eq_true rfl) ?_
        refine am_steps ok_Mo_phase 2 (x' := (if (900 : Int32) ≤ (s.1 56) then 55 else 51, [some (.ref 22)], [], h0, 0, 0)) rfl (Nat.le_of_ble_eq_true rfl) (Nat.le_of_ble_eq_true rfl) ?_
        refine am_if (fun hc4 => ?_) (fun hc4 => ?_)
        · rw [if_pos hc4] at hd
          refine am_steps ok_Mo_phase 1 (x' := (56, [some (.ref 22)], [.int 4], h0, 0, 0)) rfl (Nat.le_of_ble_eq_true rfl) (Nat.le_of_ble_eq_true rfl) ?_
          cases hd; exact am_ret ok_Mo_phase rfl (Nat.le_of_ble_eq_true rfl) (Nat.le_of_ble_eq_true rfl) ⟨rfl, rfl⟩
        · rw [if_neg hc4] at hd
          refine am_steps ok_Mo_phase 2 (x' := (56, [some (.ref 22)], [.int 3], h0, 0, 0)) rfl (Nat.le_of_ble_eq_true rfl) (Nat.le_of_ble_eq_true rfl) ?_
          cases hd; exact am_ret ok_Mo_phase rfl (Nat.le_of_ble_eq_true rfl) (Nat.le_of_ble_eq_true rfl) ⟨rfl, rfl⟩
      · rw [if_neg hc3] at hd
        refine am_steps ok_Mo_phase 2 (x' := (56, [some (.ref 22)], [.int 2], h0, 0, 0)) rfl (Nat.le_of_ble_eq_true rfl) (Nat.le_of_ble_eq_true rfl) ?_
        cases hd; exact am_ret ok_Mo_phase rfl (Nat.le_of_ble_eq_true rfl) (Nat.le_of_ble_eq_true rfl) ⟨rfl, rfl⟩
    · rw [if_neg hc2] at hd
      refine am_steps ok_Mo_phase 2 (x' := (56, [some (.ref 22)], [.int 1], h0, 0, 0)) rfl (Nat.le_of_ble_eq_true rfl) (Nat.le_of_ble_eq_true rfl) ?_
      cases hd; exact am_ret ok_Mo_phase rfl (Nat.le_of_ble_eq_true rfl) (Nat.le_of_ble_eq_true rfl) ⟨rfl, rfl⟩
  · rw [if_neg hc1] at hd
    refine am_steps ok_Mo_phase 2 (x' := (56, [some (.ref 22)], [.int 0], h0, 0, 0)) rfl (Nat.le_of_ble_eq_true rfl) (Nat.le_of_ble_eq_true rfl) ?_
    cases hd; exact am_ret ok_Mo_phase rfl (Nat.le_of_ble_eq_true rfl) (Nat.le_of_ble_eq_true rfl) ⟨rfl, rfl⟩
def l_Mo_isTime_149 : Nat → Int32 → Int32 → mS → Option (Int32)
  | 0, _, _, _ => none
  | fu + 1, v3, v4, s => (am_ix 16 400).bind fun j25 => (if (((s.2.2.1 24 j25) - 48) : Int32) ≤ v4 then (some v3) else ((if (v3 : Int32) = 0 then (some 0) else ((d_Mo_assetAt ((17 + (26 * v4)) + 8) s).bind fun q34 => (if ¬ (q34 : Int32) = (s.1 16) then (some 0) else (some 1)))).bind fun (u29 : Int32) => (l_Mo_isTime_149 fu u29 (v4 + 1) s)))
set_option maxHeartbeats 4000000 in
set_option maxRecDepth 100000 in
theorem L_Mo_isTime_149 {Q : Option Value → am_H → Prop} (s : mS) (h : am_H) (hM : RM s h) : ∀ (fu : Nat) (v3 : Int32) (v4 : Int32) (q : Int32), l_Mo_isTime_149 fu v3 v4 s = some q → am_S am_Pr none 2 49 0 0 39 (202, [some (.ref 22), none, none, some (.int q), none], [], h, 0, 0) Q → am_S am_Pr none 2 49 0 0 39 (149, [some (.ref 22), none, none, some (.int v3), some (.int v4)], [], h, 0, 0) Q := by
  intro fu
  induction fu with
  | zero => intro v3 v4 q hd; cases hd
  | succ fu ih =>
    intro v3 v4 q hd kk
    unfold l_Mo_isTime_149 at hd
    refine am_steps ok_Mo_isTime 2 (x' := (152, [some (.ref 22), none, none, some (.int v3), some (.int v4)], [.ref 22, .int v4], h, 0, 0)) rfl (Nat.le_of_ble_eq_true rfl) (Nat.le_of_ble_eq_true rfl) ?_
    refine mr_get ok_Mo_isTime rfl hM (v := .ref 24) rfl (pc' := 155) rfl (Nat.le_of_ble_eq_true rfl) (Nat.le_of_ble_eq_true rfl) ?_
    refine am_steps ok_Mo_isTime 1 (x' := (157, [some (.ref 22), none, none, some (.int v3), some (.int v4)], [.int 16, .ref 24, .int v4], h, 0, 0)) rfl (Nat.le_of_ble_eq_true rfl) (Nat.le_of_ble_eq_true rfl) ?_
    obtain ⟨j25, hx26, hd27⟩ := Option.bind_eq_some_iff.mp hd; clear hd; have hd := hd27; clear hd27
    refine mr_bald ok_Mo_isTime rfl hM (N := 400) (by decide) (Or.inl rfl) hx26 (pc' := 158) rfl (Nat.le_of_ble_eq_true rfl) (Nat.le_of_ble_eq_true rfl) ?_
    refine am_steps ok_Mo_isTime 3 (x' := (if (((s.2.2.1 24 j25) - 48) : Int32) ≤ v4 then 202 else 164, [some (.ref 22), none, none, some (.int v3), some (.int v4)], [], h, 0, 0)) rfl (Nat.le_of_ble_eq_true rfl) (Nat.le_of_ble_eq_true rfl) ?_
    refine am_if (fun hc28 => ?_) (fun hc28 => ?_)
    · rw [if_pos hc28] at hd
      refine am_drop 4 ?_
      cases hd; exact kk
    · rw [if_neg hc28] at hd
      refine am_steps ok_Mo_isTime 2 (x' := (if (v3 : Int32) = 0 then 194 else 168, [some (.ref 22), none, none, some (.int v3), some (.int v4)], [], h, 0, 0)) rfl (Nat.le_of_ble_eq_true rfl) (Nat.le_of_ble_eq_true rfl) ?_
      obtain ⟨u29, hA31, hB32⟩ := Option.bind_eq_some_iff.mp hd; clear hd
      have K30 : am_S am_Pr none 2 49 0 0 39 (195, [some (.ref 22), none, none, none, some (.int v4)], [.int u29], h, 0, 0) Q := by
        have hd := hB32
        refine am_steps ok_Mo_isTime 3 (x' := (149, [some (.ref 22), none, none, some (.int u29), some (.int (v4 + 1))], [], h, 0, 0)) rfl (Nat.le_of_ble_eq_true rfl) (Nat.le_of_ble_eq_true rfl) ?_
        exact ih u29 (v4 + 1) q hd kk
      clear hB32; have hd := hA31; clear hA31
      refine am_if (fun hc33 => ?_) (fun hc33 => ?_)
      · rw [if_pos hc33] at hd
        refine am_steps ok_Mo_isTime 1 (x' := (195, [some (.ref 22), none, none, some (.int v3), some (.int v4)], [.int 0], h, 0, 0)) rfl (Nat.le_of_ble_eq_true rfl) (Nat.le_of_ble_eq_true rfl) ?_
        refine am_drop 3 ?_
        cases hd; exact K30 
      · rw [if_neg hc33] at hd
        refine am_steps ok_Mo_isTime 8 (x' := (180, [some (.ref 22), none, none, some (.int v3), some (.int v4)], [.int ((17 + (26 * v4)) + 8), .ref 22], h, 0, 0)) rfl (Nat.le_of_ble_eq_true rfl) (Nat.le_of_ble_eq_true rfl) ?_
        obtain ⟨q34, hq35, hd36⟩ := Option.bind_eq_some_iff.mp hd; clear hd; have hd := hd36; clear hd36
        refine ar_cv ok_Mo_isTime hk_Mo_assetAt rfl rfl (As := [.int ((17 + (26 * v4)) + 8)]) (ad := 22) (rest := []) rfl rfl hM.1 (Nat.le_of_ble_eq_true rfl) (k_Mo_assetAt ((17 + (26 * v4)) + 8) s h hM q34 hq35) (Nat.le_of_ble_eq_true rfl) (Nat.le_of_ble_eq_true rfl) (Nat.le_of_ble_eq_true rfl) (Nat.le_of_ble_eq_true rfl) (pc' := 183) rfl (fun r37 h39 z38 => ?_)
        obtain ⟨z43, z44⟩ := z38; subst z43; rw [z44]
        show am_S _ _ _ _ _ _ _ (183, [some (.ref 22), none, none, some (.int v3), some (.int v4)], [.int q34], h, 0, 0) _
        refine am_steps ok_Mo_isTime 1 (x' := (184, [some (.ref 22), none, none, some (.int v3), some (.int v4)], [.ref 22, .int q34], h, 0, 0)) rfl (Nat.le_of_ble_eq_true rfl) (Nat.le_of_ble_eq_true rfl) ?_
        refine mr_get ok_Mo_isTime rfl hM (v := .int (s.1 16)) rfl (pc' := 187) rfl (Nat.le_of_ble_eq_true rfl) (Nat.le_of_ble_eq_true rfl) ?_
        refine am_steps ok_Mo_isTime 1 (x' := (if ¬ (q34 : Int32) = (s.1 16) then 194 else 190, [some (.ref 22), none, none, some (.int v3), some (.int v4)], [], h, 0, 0)) rfl (Nat.le_of_ble_eq_true rfl) (Nat.le_of_ble_eq_true rfl) ?_
        refine am_if (fun hc45 => ?_) (fun hc45 => ?_)
        · rw [if_pos hc45] at hd
          refine am_steps ok_Mo_isTime 1 (x' := (195, [some (.ref 22), none, none, some (.int v3), some (.int v4)], [.int 0], h, 0, 0)) rfl (Nat.le_of_ble_eq_true rfl) (Nat.le_of_ble_eq_true rfl) ?_
          refine am_drop 3 ?_
          cases hd; exact K30 
        · rw [if_neg hc45] at hd
          refine am_steps ok_Mo_isTime 2 (x' := (195, [some (.ref 22), none, none, some (.int v3), some (.int v4)], [.int 1], h, 0, 0)) rfl (Nat.le_of_ble_eq_true rfl) (Nat.le_of_ble_eq_true rfl) ?_
          refine am_drop 3 ?_
          cases hd; exact K30 
def d_Mo_isTime  (s : mS) : Option (Int32) := (d_Mo_phase  s).bind fun q1 => ((if ((s.1 4) : Int32) = 5 then (some 1) else (if ((s.1 4) : Int32) = 6 then (some 1) else (if ((s.1 4) : Int32) = 3 then (some 1) else (if ((s.1 4) : Int32) = 4 then (some 1) else (if ¬ ((s.1 4) : Int32) = 13 then (some 0) else (some 1)))))).bind fun (u12 : Int32) => (if ¬ (q1 : Int32) = 0 then (if ¬ (q1 : Int32) = 4 then (if ¬ (q1 : Int32) = 2 then ((if ¬ (q1 : Int32) = 3 then (some 1) else (if ¬ ((s.1 4) : Int32) = 5 then (some 1) else ((l_Mo_isTime_149 100000 1 0 s).bind fun q46 => (some q46)))).bind fun (u19 : Int32) => (if u19 = 0 ∨ u19 = 1 then some u19 else none)) else (if ¬ ((s.1 4) : Int32) = 5 then (some 1) else ((am_ix 15 400).bind fun j50 => (if (52 : Int32) < (s.2.2.1 24 j50) then (some 0) else (some 1))))) else (if ¬ (u12 : Int32) = 0 then (some 0) else (if ((s.1 4) : Int32) = 7 then (some 0) else (if ((s.1 4) : Int32) = 8 then (some 0) else (some 1))))) else (if ¬ (u12 : Int32) = 0 then (some 0) else (some 1))))
set_option maxHeartbeats 4000000 in
set_option maxRecDepth 100000 in
theorem k_Mo_isTime  (s : mS) (h0 : am_H) (hM : RM s h0) (q : Int32) (hd : d_Mo_isTime  s = some q) : am_Me am_Pr none 2 49 0 0 39 [.ref 22] h0 (am_is (some (.int q)) h0) := by
  refine am_enter (d := hd_Mo_isTime) rfl (by decide +kernel) (Nat.le_of_ble_eq_true rfl) ?_
  show am_S _ _ _ _ _ _ _ (0, [some (.ref 22), none, none, none, none], [], h0, 0, 0) _
  unfold d_Mo_isTime at hd
  refine am_steps ok_Mo_isTime 1 (x' := (1, [some (.ref 22), none, none, none, none], [.ref 22], h0, 0, 0)) rfl (Nat.le_of_ble_eq_true rfl) (Nat.le_of_ble_eq_true rfl) ?_
  obtain ⟨q1, hq2, hd3⟩ := Option.bind_eq_some_iff.mp hd; clear hd; have hd := hd3; clear hd3
  refine ar_cv ok_Mo_isTime hk_Mo_phase rfl rfl (As := []) (ad := 22) (rest := []) rfl rfl hM.1 (Nat.le_of_ble_eq_true rfl) (k_Mo_phase  s h0 hM q1 hq2) (Nat.le_of_ble_eq_true rfl) (Nat.le_of_ble_eq_true rfl) (Nat.le_of_ble_eq_true rfl) (Nat.le_of_ble_eq_true rfl) (pc' := 4) rfl (fun r4 h6 z5 => ?_)
  obtain ⟨z10, z11⟩ := z5; subst z10; rw [z11]
  show am_S _ _ _ _ _ _ _ (4, [some (.ref 22), none, none, none, none], [.int q1], h0, 0, 0) _
  refine am_steps ok_Mo_isTime 2 (x' := (6, [some (.ref 22), some (.int q1), none, none, none], [.ref 22], h0, 0, 0)) rfl (Nat.le_of_ble_eq_true rfl) (Nat.le_of_ble_eq_true rfl) ?_
  refine mr_get ok_Mo_isTime rfl hM (v := .int (s.1 4)) rfl (pc' := 9) rfl (Nat.le_of_ble_eq_true rfl) (Nat.le_of_ble_eq_true rfl) ?_
  refine am_steps ok_Mo_isTime 2 (x' := (if ((s.1 4) : Int32) = 5 then 47 else 13, [some (.ref 22), some (.int q1), none, none, none], [], h0, 0, 0)) rfl (Nat.le_of_ble_eq_true rfl) (Nat.le_of_ble_eq_true rfl) ?_
  obtain ⟨u12, hA14, hB15⟩ := Option.bind_eq_some_iff.mp hd; clear hd
  have K13 : am_S am_Pr none 2 49 0 0 39 (52, [some (.ref 22), some (.int q1), none, none, none], [.int u12], h0, 0, 0) (am_is (some (.int q)) h0) := by
    have hd := hB15
    refine am_steps ok_Mo_isTime 3 (x' := (if ¬ (q1 : Int32) = 0 then 67 else 57, [some (.ref 22), some (.int q1), some (.int u12), none, none], [], h0, 0, 0)) rfl (Nat.le_of_ble_eq_true rfl) (Nat.le_of_ble_eq_true rfl) ?_
    refine am_if (fun hc16 => ?_) (fun hc16 => ?_)
    · rw [if_pos hc16] at hd
      refine am_steps ok_Mo_isTime 3 (x' := (if ¬ (q1 : Int32) = 4 then 100 else 72, [some (.ref 22), some (.int q1), some (.int u12), none, none], [], h0, 0, 0)) rfl (Nat.le_of_ble_eq_true rfl) (Nat.le_of_ble_eq_true rfl) ?_
      refine am_if (fun hc17 => ?_) (fun hc17 => ?_)
      · rw [if_pos hc17] at hd
        refine am_steps ok_Mo_isTime 3 (x' := (if ¬ (q1 : Int32) = 2 then 131 else 105, [some (.ref 22), some (.int q1), some (.int u12), none, none], [], h0, 0, 0)) rfl (Nat.le_of_ble_eq_true rfl) (Nat.le_of_ble_eq_true rfl) ?_
        refine am_if (fun hc18 => ?_) (fun hc18 => ?_)
        · rw [if_pos hc18] at hd
          refine am_steps ok_Mo_isTime 5 (x' := (if ¬ (q1 : Int32) = 3 then 202 else 138, [some (.ref 22), some (.int q1), some (.int u12), some (.int 1), none], [], h0, 0, 0)) rfl (Nat.le_of_ble_eq_true rfl) (Nat.le_of_ble_eq_true rfl) ?_
          obtain ⟨u19, hA21, hB22⟩ := Option.bind_eq_some_iff.mp hd; clear hd
          have K20 : am_S am_Pr none 2 49 0 0 39 (202, [none, none, none, some (.int u19), none], [], h0, 0, 0) (am_is (some (.int q)) h0) := by
            have hd := hB22
            refine am_steps ok_Mo_isTime 1 (x' := (203, [none, none, none, some (.int u19), none], [.int u19], h0, 0, 0)) rfl (Nat.le_of_ble_eq_true rfl) (Nat.le_of_ble_eq_true rfl) ?_
            split at hd
            · rename_i hz; cases hd; exact am_ret ok_Mo_isTime (if_pos hz) (Nat.le_of_ble_eq_true rfl) (Nat.le_of_ble_eq_true rfl) ⟨rfl, rfl⟩
            · cases hd
          clear hB22; have hd := hA21; clear hA21
          refine am_if (fun hc23 => ?_) (fun hc23 => ?_)
          · rw [if_pos hc23] at hd
            refine am_drop 0 ?_
            refine am_drop 1 ?_
            refine am_drop 2 ?_
            cases hd; exact K20 
          · rw [if_neg hc23] at hd
            refine am_steps ok_Mo_isTime 1 (x' := (139, [some (.ref 22), some (.int q1), some (.int u12), some (.int 1), none], [.ref 22], h0, 0, 0)) rfl (Nat.le_of_ble_eq_true rfl) (Nat.le_of_ble_eq_true rfl) ?_
            refine mr_get ok_Mo_isTime rfl hM (v := .int (s.1 4)) rfl (pc' := 142) rfl (Nat.le_of_ble_eq_true rfl) (Nat.le_of_ble_eq_true rfl) ?_
            refine am_steps ok_Mo_isTime 2 (x' := (if ¬ ((s.1 4) : Int32) = 5 then 202 else 146, [some (.ref 22), some (.int q1), some (.int u12), some (.int 1), none], [], h0, 0, 0)) rfl (Nat.le_of_ble_eq_true rfl) (Nat.le_of_ble_eq_true rfl) ?_
            refine am_if (fun hc24 => ?_) (fun hc24 => ?_)
            · rw [if_pos hc24] at hd
              refine am_drop 0 ?_
              refine am_drop 1 ?_
              refine am_drop 2 ?_
              cases hd; exact K20 
            · rw [if_neg hc24] at hd
              refine am_steps ok_Mo_isTime 2 (x' := (149, [some (.ref 22), some (.int q1), some (.int u12), some (.int 1), some (.int 0)], [], h0, 0, 0)) rfl (Nat.le_of_ble_eq_true rfl) (Nat.le_of_ble_eq_true rfl) ?_
              refine am_drop 1 ?_
              refine am_drop 2 ?_
              obtain ⟨q46, hq47, hd48⟩ := Option.bind_eq_some_iff.mp hd; clear hd; have hd := hd48; clear hd48
              refine L_Mo_isTime_149 s h0 hM 100000 1 0 q46 hq47 ?_
              show am_S _ _ _ _ _ _ _ (202, [some (.ref 22), none, none, some (.int q46), none], [], h0, 0, 0) _
              refine am_drop 0 ?_
              cases hd; exact K20 
        · rw [if_neg hc18] at hd
          refine am_steps ok_Mo_isTime 1 (x' := (106, [some (.ref 22), some (.int q1), some (.int u12), none, none], [.ref 22], h0, 0, 0)) rfl (Nat.le_of_ble_eq_true rfl) (Nat.le_of_ble_eq_true rfl) ?_
          refine mr_get ok_Mo_isTime rfl hM (v := .int (s.1 4)) rfl (pc' := 109) rfl (Nat.le_of_ble_eq_true rfl) (Nat.le_of_ble_eq_true rfl) ?_
          refine am_steps ok_Mo_isTime 2 (x' := (if ¬ ((s.1 4) : Int32) = 5 then 125 else 113, [some (.ref 22), some (.int q1), some (.int u12), none, none], [], h0, 0, 0)) rfl (Nat.le_of_ble_eq_true rfl) (Nat.le_of_ble_eq_true rfl) ?_
          refine am_if (fun hc49 => ?_) (fun hc49 => ?_)
          · rw [if_pos hc49] at hd
            refine am_steps ok_Mo_isTime 2 (x' := (130, [some (.ref 22), some (.int q1), some (.int u12), none, none], [.int 1], h0, 0, 0)) rfl (Nat.le_of_ble_eq_true rfl) (Nat.le_of_ble_eq_true rfl) ?_
            cases hd; exact am_ret ok_Mo_isTime rfl (Nat.le_of_ble_eq_true rfl) (Nat.le_of_ble_eq_true rfl) ⟨rfl, rfl⟩
          · rw [if_neg hc49] at hd
            refine am_steps ok_Mo_isTime 1 (x' := (114, [some (.ref 22), some (.int q1), some (.int u12), none, none], [.ref 22], h0, 0, 0)) rfl (Nat.le_of_ble_eq_true rfl) (Nat.le_of_ble_eq_true rfl) ?_
            refine mr_get ok_Mo_isTime rfl hM (v := .ref 24) rfl (pc' := 117) rfl (Nat.le_of_ble_eq_true rfl) (Nat.le_of_ble_eq_true rfl) ?_
            refine am_steps ok_Mo_isTime 1 (x' := (119, [some (.ref 22), some (.int q1), some (.int u12), none, none], [.int 15, .ref 24], h0, 0, 0)) rfl (Nat.le_of_ble_eq_true rfl) (Nat.le_of_ble_eq_true rfl) ?_
            obtain ⟨j50, hx51, hd52⟩ := Option.bind_eq_some_iff.mp hd; clear hd; have hd := hd52; clear hd52
            refine mr_bald ok_Mo_isTime rfl hM (N := 400) (by decide) (Or.inl rfl) hx51 (pc' := 120) rfl (Nat.le_of_ble_eq_true rfl) (Nat.le_of_ble_eq_true rfl) ?_
            refine am_steps ok_Mo_isTime 2 (x' := (if (52 : Int32) < (s.2.2.1 24 j50) then 129 else 125, [some (.ref 22), some (.int q1), some (.int u12), none, none], [], h0, 0, 0)) rfl (Nat.le_of_ble_eq_true rfl) (Nat.le_of_ble_eq_true rfl) ?_
            refine am_if (fun hc53 => ?_) (fun hc53 => ?_)
            · rw [if_pos hc53] at hd
              refine am_steps ok_Mo_isTime 1 (x' := (130, [some (.ref 22), some (.int q1), some (.int u12), none, none], [.int 0], h0, 0, 0)) rfl (Nat.le_of_ble_eq_true rfl) (Nat.le_of_ble_eq_true rfl) ?_
              cases hd; exact am_ret ok_Mo_isTime rfl (Nat.le_of_ble_eq_true rfl) (Nat.le_of_ble_eq_true rfl) ⟨rfl, rfl⟩
            · rw [if_neg hc53] at hd
              refine am_steps ok_Mo_isTime 2 (x' := (130, [some (.ref 22), some (.int q1), some (.int u12), none, none], [.int 1], h0, 0, 0)) rfl (Nat.le_of_ble_eq_true rfl) (Nat.le_of_ble_eq_true rfl) ?_
              cases hd; exact am_ret ok_Mo_isTime rfl (Nat.le_of_ble_eq_true rfl) (Nat.le_of_ble_eq_true rfl) ⟨rfl, rfl⟩
      · rw [if_neg hc17] at hd
        refine am_steps ok_Mo_isTime 2 (x' := (if ¬ (u12 : Int32) = 0 then 98 else 76, [some (.ref 22), some (.int q1), some (.int u12), none, none], [], h0, 0, 0)) rfl (Nat.le_of_ble_eq_true rfl) (Nat.le_of_ble_eq_true rfl) ?_
        refine am_if (fun hc54 => ?_) (fun hc54 => ?_)
        · rw [if_pos hc54] at hd
          refine am_steps ok_Mo_isTime 1 (x' := (99, [some (.ref 22), some (.int q1), some (.int u12), none, none], [.int 0], h0, 0, 0)) rfl (Nat.le_of_ble_eq_true rfl) (Nat.le_of_ble_eq_true rfl) ?_
          cases hd; exact am_ret ok_Mo_isTime rfl (Nat.le_of_ble_eq_true rfl) (Nat.le_of_ble_eq_true rfl) ⟨rfl, rfl⟩
        · rw [if_neg hc54] at hd
          refine am_steps ok_Mo_isTime 1 (x' := (77, [some (.ref 22), some (.int q1), some (.int u12), none, none], [.ref 22], h0, 0, 0)) rfl (Nat.le_of_ble_eq_true rfl) (Nat.le_of_ble_eq_true rfl) ?_
          refine mr_get ok_Mo_isTime rfl hM (v := .int (s.1 4)) rfl (pc' := 80) rfl (Nat.le_of_ble_eq_true rfl) (Nat.le_of_ble_eq_true rfl) ?_
          refine am_steps ok_Mo_isTime 2 (x' := (if ((s.1 4) : Int32) = 7 then 98 else 85, [some (.ref 22), some (.int q1), some (.int u12), none, none], [], h0, 0, 0)) rfl (Nat.le_of_ble_eq_true rfl) (Nat.le_of_ble_eq_true rfl) ?_
          refine am_if (fun hc55 => ?_) (fun hc55 => ?_)
          · rw [if_pos hc55] at hd
            refine am_steps ok_Mo_isTime 1 (x' := (99, [some (.ref 22), some (.int q1), some (.int u12), none, none], [.int 0], h0, 0, 0)) rfl (Nat.le_of_ble_eq_true rfl) (Nat.le_of_ble_eq_true rfl) ?_
            cases hd; exact am_ret ok_Mo_isTime rfl (Nat.le_of_ble_eq_true rfl) (Nat.le_of_ble_eq_true rfl) ⟨rfl, rfl⟩
          · rw [if_neg hc55] at hd
            refine am_steps ok_Mo_isTime 1 (x' := (86, [some (.ref 22), some (.int q1), some (.int u12), none, none], [.ref 22], h0, 0, 0)) rfl (Nat.le_of_ble_eq_true rfl) (Nat.le_of_ble_eq_true rfl) ?_
            refine mr_get ok_Mo_isTime rfl hM (v := .int (s.1 4)) rfl (pc' := 89) rfl (Nat.le_of_ble_eq_true rfl) (Nat.le_of_ble_eq_true rfl) ?_
            refine am_steps ok_Mo_isTime 2 (x' := (if ((s.1 4) : Int32) = 8 then 98 else 94, [some (.ref 22), some (.int q1), some (.int u12), none, none], [], h0, 0, 0)) rfl (Nat.le_of_ble_eq_true rfl) (Nat.le_of_ble_eq_true rfl) ?_
            refine am_if (fun hc56 => ?_) (fun hc56 => ?_)
            · rw [if_pos hc56] at hd
              refine am_steps ok_Mo_isTime 1 (x' := (99, [some (.ref 22), some (.int q1), some (.int u12), none, none], [.int 0], h0, 0, 0)) rfl (Nat.le_of_ble_eq_true rfl) (Nat.le_of_ble_eq_true rfl) ?_
              cases hd; exact am_ret ok_Mo_isTime rfl (Nat.le_of_ble_eq_true rfl) (Nat.le_of_ble_eq_true rfl) ⟨rfl, rfl⟩
            · rw [if_neg hc56] at hd
              refine am_steps ok_Mo_isTime 2 (x' := (99, [some (.ref 22), some (.int q1), some (.int u12), none, none], [.int 1], h0, 0, 0)) rfl (Nat.le_of_ble_eq_true rfl) (Nat.le_of_ble_eq_true rfl) ?_
              cases hd; exact am_ret ok_Mo_isTime rfl (Nat.le_of_ble_eq_true rfl) (Nat.le_of_ble_eq_true rfl) ⟨rfl, rfl⟩
    · rw [if_neg hc16] at hd
      refine am_steps ok_Mo_isTime 2 (x' := (if ¬ (u12 : Int32) = 0 then 65 else 61, [some (.ref 22), some (.int q1), some (.int u12), none, none], [], h0, 0, 0)) rfl (Nat.le_of_ble_eq_true rfl) (Nat.le_of_ble_eq_true rfl) ?_
      refine am_if (fun hc57 => ?_) (fun hc57 => ?_)
      · rw [if_pos hc57] at hd
        refine am_steps ok_Mo_isTime 1 (x' := (66, [some (.ref 22), some (.int q1), some (.int u12), none, none], [.int 0], h0, 0, 0)) rfl (Nat.le_of_ble_eq_true rfl) (Nat.le_of_ble_eq_true rfl) ?_
        cases hd; exact am_ret ok_Mo_isTime rfl (Nat.le_of_ble_eq_true rfl) (Nat.le_of_ble_eq_true rfl) ⟨rfl, rfl⟩
      · rw [if_neg hc57] at hd
        refine am_steps ok_Mo_isTime 2 (x' := (66, [some (.ref 22), some (.int q1), some (.int u12), none, none], [.int 1], h0, 0, 0)) rfl (Nat.le_of_ble_eq_true rfl) (Nat.le_of_ble_eq_true rfl) ?_
        cases hd; exact am_ret ok_Mo_isTime rfl (Nat.le_of_ble_eq_true rfl) (Nat.le_of_ble_eq_true rfl) ⟨rfl, rfl⟩
  clear hB15; have hd := hA14; clear hA14
  refine am_if (fun hc58 => ?_) (fun hc58 => ?_)
  · rw [if_pos hc58] at hd
    refine am_steps ok_Mo_isTime 2 (x' := (52, [some (.ref 22), some (.int q1), none, none, none], [.int 1], h0, 0, 0)) rfl (Nat.le_of_ble_eq_true rfl) (Nat.le_of_ble_eq_true rfl) ?_
    cases hd; exact K13 
  · rw [if_neg hc58] at hd
    refine am_steps ok_Mo_isTime 1 (x' := (14, [some (.ref 22), some (.int q1), none, none, none], [.ref 22], h0, 0, 0)) rfl (Nat.le_of_ble_eq_true rfl) (Nat.le_of_ble_eq_true rfl) ?_
    refine mr_get ok_Mo_isTime rfl hM (v := .int (s.1 4)) rfl (pc' := 17) rfl (Nat.le_of_ble_eq_true rfl) (Nat.le_of_ble_eq_true rfl) ?_
    refine am_steps ok_Mo_isTime 2 (x' := (if ((s.1 4) : Int32) = 6 then 47 else 22, [some (.ref 22), some (.int q1), none, none, none], [], h0, 0, 0)) rfl (Nat.le_of_ble_eq_true rfl) (Nat.le_of_ble_eq_true rfl) ?_
    refine am_if (fun hc59 => ?_) (fun hc59 => ?_)
    · rw [if_pos hc59] at hd
      refine am_steps ok_Mo_isTime 2 (x' := (52, [some (.ref 22), some (.int q1), none, none, none], [.int 1], h0, 0, 0)) rfl (Nat.le_of_ble_eq_true rfl) (Nat.le_of_ble_eq_true rfl) ?_
      cases hd; exact K13 
    · rw [if_neg hc59] at hd
      refine am_steps ok_Mo_isTime 1 (x' := (23, [some (.ref 22), some (.int q1), none, none, none], [.ref 22], h0, 0, 0)) rfl (Nat.le_of_ble_eq_true rfl) (Nat.le_of_ble_eq_true rfl) ?_
      refine mr_get ok_Mo_isTime rfl hM (v := .int (s.1 4)) rfl (pc' := 26) rfl (Nat.le_of_ble_eq_true rfl) (Nat.le_of_ble_eq_true rfl) ?_
      refine am_steps ok_Mo_isTime 2 (x' := (if ((s.1 4) : Int32) = 3 then 47 else 30, [some (.ref 22), some (.int q1), none, none, none], [], h0, 0, 0)) rfl (Nat.le_of_ble_eq_true rfl) (Nat.le_of_ble_eq_true rfl) ?_
      refine am_if (fun hc60 => ?_) (fun hc60 => ?_)
      · rw [if_pos hc60] at hd
        refine am_steps ok_Mo_isTime 2 (x' := (52, [some (.ref 22), some (.int q1), none, none, none], [.int 1], h0, 0, 0)) rfl (Nat.le_of_ble_eq_true rfl) (Nat.le_of_ble_eq_true rfl) ?_
        cases hd; exact K13 
      · rw [if_neg hc60] at hd
        refine am_steps ok_Mo_isTime 1 (x' := (31, [some (.ref 22), some (.int q1), none, none, none], [.ref 22], h0, 0, 0)) rfl (Nat.le_of_ble_eq_true rfl) (Nat.le_of_ble_eq_true rfl) ?_
        refine mr_get ok_Mo_isTime rfl hM (v := .int (s.1 4)) rfl (pc' := 34) rfl (Nat.le_of_ble_eq_true rfl) (Nat.le_of_ble_eq_true rfl) ?_
        refine am_steps ok_Mo_isTime 2 (x' := (if ((s.1 4) : Int32) = 4 then 47 else 38, [some (.ref 22), some (.int q1), none, none, none], [], h0, 0, 0)) rfl (Nat.le_of_ble_eq_true rfl) (Nat.le_of_ble_eq_true rfl) ?_
        refine am_if (fun hc61 => ?_) (fun hc61 => ?_)
        · rw [if_pos hc61] at hd
          refine am_steps ok_Mo_isTime 2 (x' := (52, [some (.ref 22), some (.int q1), none, none, none], [.int 1], h0, 0, 0)) rfl (Nat.le_of_ble_eq_true rfl) (Nat.le_of_ble_eq_true rfl) ?_
          cases hd; exact K13 
        · rw [if_neg hc61] at hd
          refine am_steps ok_Mo_isTime 1 (x' := (39, [some (.ref 22), some (.int q1), none, none, none], [.ref 22], h0, 0, 0)) rfl (Nat.le_of_ble_eq_true rfl) (Nat.le_of_ble_eq_true rfl) ?_
          refine mr_get ok_Mo_isTime rfl hM (v := .int (s.1 4)) rfl (pc' := 42) rfl (Nat.le_of_ble_eq_true rfl) (Nat.le_of_ble_eq_true rfl) ?_
          refine am_steps ok_Mo_isTime 2 (x' := (if ¬ ((s.1 4) : Int32) = 13 then 51 else 47, [some (.ref 22), some (.int q1), none, none, none], [], h0, 0, 0)) rfl (Nat.le_of_ble_eq_true rfl) (Nat.le_of_ble_eq_true rfl) ?_
          refine am_if (fun hc62 => ?_) (fun hc62 => ?_)
          · rw [if_pos hc62] at hd
            refine am_steps ok_Mo_isTime 1 (x' := (52, [some (.ref 22), some (.int q1), none, none, none], [.int 0], h0, 0, 0)) rfl (Nat.le_of_ble_eq_true rfl) (Nat.le_of_ble_eq_true rfl) ?_
            cases hd; exact K13 
          · rw [if_neg hc62] at hd
            refine am_steps ok_Mo_isTime 2 (x' := (52, [some (.ref 22), some (.int q1), none, none, none], [.int 1], h0, 0, 0)) rfl (Nat.le_of_ble_eq_true rfl) (Nat.le_of_ble_eq_true rfl) ?_
            cases hd; exact K13 
def d_Mo_worth (a : Int64) (b : Int64) (c : Int32) (s : mS) : Option (Int64) := if ((lg_cmp a 0) : Int32) = 0 then (some 0) else (if ¬ ((lg_cmp (b * (Int32.toInt64 (100 - c))) 0) : Int32) = 0 then (if ((lg_cmp (a / (Int64.ofNat 100)) 0) : Int32) ≤ 0 then (if ((lg_cmp ((((a / (Int64.ofNat 100)) * (b * (Int32.toInt64 (100 - c)))) + ((a - a / (Int64.ofNat 100) * (Int64.ofNat 100)) * ((b * (Int32.toInt64 (100 - c))) / (Int64.ofNat 100)))) + (((a - a / (Int64.ofNat 100) * (Int64.ofNat 100)) * ((b * (Int32.toInt64 (100 - c))) - (b * (Int32.toInt64 (100 - c))) / (Int64.ofNat 100) * (Int64.ofNat 100))) / (Int64.ofNat 100))) (Int64.ofNat 4000000000000000000)) : Int32) ≤ 0 then (some ((((a / (Int64.ofNat 100)) * (b * (Int32.toInt64 (100 - c)))) + ((a - a / (Int64.ofNat 100) * (Int64.ofNat 100)) * ((b * (Int32.toInt64 (100 - c))) / (Int64.ofNat 100)))) + (((a - a / (Int64.ofNat 100) * (Int64.ofNat 100)) * ((b * (Int32.toInt64 (100 - c))) - (b * (Int32.toInt64 (100 - c))) / (Int64.ofNat 100) * (Int64.ofNat 100))) / (Int64.ofNat 100)))) else (some (Int64.ofNat 4000000000000000001))) else (if (a / (Int64.ofNat 100)) = 0 then none else (if ((lg_cmp (b * (Int32.toInt64 (100 - c))) ((Int64.ofNat 4000000000000000000) / (a / (Int64.ofNat 100)))) : Int32) ≤ 0 then (if ((lg_cmp ((((a / (Int64.ofNat 100)) * (b * (Int32.toInt64 (100 - c)))) + ((a - a / (Int64.ofNat 100) * (Int64.ofNat 100)) * ((b * (Int32.toInt64 (100 - c))) / (Int64.ofNat 100)))) + (((a - a / (Int64.ofNat 100) * (Int64.ofNat 100)) * ((b * (Int32.toInt64 (100 - c))) - (b * (Int32.toInt64 (100 - c))) / (Int64.ofNat 100) * (Int64.ofNat 100))) / (Int64.ofNat 100))) (Int64.ofNat 4000000000000000000)) : Int32) ≤ 0 then (some ((((a / (Int64.ofNat 100)) * (b * (Int32.toInt64 (100 - c)))) + ((a - a / (Int64.ofNat 100) * (Int64.ofNat 100)) * ((b * (Int32.toInt64 (100 - c))) / (Int64.ofNat 100)))) + (((a - a / (Int64.ofNat 100) * (Int64.ofNat 100)) * ((b * (Int32.toInt64 (100 - c))) - (b * (Int32.toInt64 (100 - c))) / (Int64.ofNat 100) * (Int64.ofNat 100))) / (Int64.ofNat 100)))) else (some (Int64.ofNat 4000000000000000001))) else (some (Int64.ofNat 4000000000000000001))))) else (some 0))
set_option maxHeartbeats 4000000 in
set_option maxRecDepth 100000 in
theorem k_Mo_worth (a : Int64) (b : Int64) (c : Int32) (s : mS) (h0 : am_H) (hM : RM s h0) (q : Int64) (hd : d_Mo_worth a b c s = some q) : am_Me am_Pr none 0 0 0 0 49 [.ref 22, .long a, .long b, .int c] h0 (am_is (some (.long q)) h0) := by
  refine am_enter (d := hd_Mo_worth) rfl (by decide +kernel) (Nat.le_of_ble_eq_true rfl) ?_
  show am_S _ _ _ _ _ _ _ (0, [some (.ref 22), some (.long a), none, some (.long b), none, some (.int c), none, none, none, none, none, none, none, none], [], h0, 0, 0) _
  unfold d_Mo_worth at hd
  refine am_steps ok_Mo_worth 11 (x' := (if ((lg_cmp a 0) : Int32) = 0 then 23 else 16, [some (.ref 22), some (.long a), none, some (.long b), none, some (.int c), some (.long (b * (Int32.toInt64 (100 - c)))), none, none, none, none, none, none, none], [], h0, 0, 0)) rfl (Nat.le_of_ble_eq_true rfl) (Nat.le_of_ble_eq_true rfl) ?_
  refine am_if (fun hc1 => ?_) (fun hc1 => ?_)
  · rw [if_pos hc1] at hd
    refine am_steps ok_Mo_worth 1 (x' := (24, [some (.ref 22), some (.long a), none, some (.long b), none, some (.int c), some (.long (b * (Int32.toInt64 (100 - c)))), none, none, none, none, none, none, none], [.long 0], h0, 0, 0)) rfl (Nat.le_of_ble_eq_true rfl) (Nat.le_of_ble_eq_true rfl) ?_
    cases hd; exact am_ret ok_Mo_worth rfl (Nat.le_of_ble_eq_true rfl) (Nat.le_of_ble_eq_true rfl) ⟨rfl, rfl⟩
  · rw [if_neg hc1] at hd
    refine am_steps ok_Mo_worth 4 (x' := (if ¬ ((lg_cmp (b * (Int32.toInt64 (100 - c))) 0) : Int32) = 0 then 25 else 23, [some (.ref 22), some (.long a), none, some (.long b), none, some (.int c), some (.long (b * (Int32.toInt64 (100 - c)))), none, none, none, none, none, none, none], [], h0, 0, 0)) rfl (Nat.le_of_ble_eq_true rfl) (Nat.le_of_ble_eq_true rfl) ?_
    refine am_if (fun hc2 => ?_) (fun hc2 => ?_)
    · rw [if_pos hc2] at hd
      refine am_steps ok_Mo_worth 2 (x' := (29, [some (.ref 22), some (.long a), none, some (.long b), none, some (.int c), some (.long (b * (Int32.toInt64 (100 - c)))), none, none, none, none, none, none, none], [.long (Int64.ofNat 100), .long a], h0, 0, 0)) rfl (Nat.le_of_ble_eq_true rfl) (Nat.le_of_ble_eq_true rfl) ?_
      refine ar_ldiv ok_Mo_worth rfl (by decide +kernel) (w := (a / (Int64.ofNat 100))) rfl (pc' := 30) rfl (Nat.le_of_ble_eq_true rfl) (Nat.le_of_ble_eq_true rfl) ?_
      refine am_steps ok_Mo_worth 3 (x' := (36, [some (.ref 22), some (.long a), none, some (.long b), none, some (.int c), some (.long (b * (Int32.toInt64 (100 - c)))), none, some (.long (a / (Int64.ofNat 100))), none, none, none, none, none], [.long (Int64.ofNat 100), .long a], h0, 0, 0)) rfl (Nat.le_of_ble_eq_true rfl) (Nat.le_of_ble_eq_true rfl) ?_
      refine ar_lrem ok_Mo_worth rfl (by decide +kernel) (w := (a - a / (Int64.ofNat 100) * (Int64.ofNat 100))) rfl (pc' := 37) rfl (Nat.le_of_ble_eq_true rfl) (Nat.le_of_ble_eq_true rfl) ?_
      refine am_steps ok_Mo_worth 5 (x' := (if ((lg_cmp (a / (Int64.ofNat 100)) 0) : Int32) ≤ 0 then 62 else 46, [some (.ref 22), some (.long a), none, some (.long b), none, some (.int c), some (.long (b * (Int32.toInt64 (100 - c)))), none, some (.long (a / (Int64.ofNat 100))), none, some (.long (a - a / (Int64.ofNat 100) * (Int64.ofNat 100))), none, none, none], [], h0, 0, 0)) rfl (Nat.le_of_ble_eq_true rfl) (Nat.le_of_ble_eq_true rfl) ?_
      refine am_if (fun hc3 => ?_) (fun hc3 => ?_)
      · rw [if_pos hc3] at hd
        refine am_steps ok_Mo_worth 6 (x' := (74, [some (.ref 22), some (.long a), none, some (.long b), none, some (.int c), some (.long (b * (Int32.toInt64 (100 - c)))), none, some (.long (a / (Int64.ofNat 100))), none, some (.long (a - a / (Int64.ofNat 100) * (Int64.ofNat 100))), none, none, none], [.long (Int64.ofNat 100), .long (b * (Int32.toInt64 (100 - c))), .long (a - a / (Int64.ofNat 100) * (Int64.ofNat 100)), .long ((a / (Int64.ofNat 100)) * (b * (Int32.toInt64 (100 - c))))], h0, 0, 0)) rfl (Nat.le_of_ble_eq_true rfl) (Nat.le_of_ble_eq_true rfl) ?_
        refine ar_ldiv ok_Mo_worth rfl (by decide +kernel) (w := ((b * (Int32.toInt64 (100 - c))) / (Int64.ofNat 100))) rfl (pc' := 75) rfl (Nat.le_of_ble_eq_true rfl) (Nat.le_of_ble_eq_true rfl) ?_
        refine am_steps ok_Mo_worth 5 (x' := (84, [some (.ref 22), some (.long a), none, some (.long b), none, some (.int c), some (.long (b * (Int32.toInt64 (100 - c)))), none, some (.long (a / (Int64.ofNat 100))), none, some (.long (a - a / (Int64.ofNat 100) * (Int64.ofNat 100))), none, none, none], [.long (Int64.ofNat 100), .long (b * (Int32.toInt64 (100 - c))), .long (a - a / (Int64.ofNat 100) * (Int64.ofNat 100)), .long (((a / (Int64.ofNat 100)) * (b * (Int32.toInt64 (100 - c)))) + ((a - a / (Int64.ofNat 100) * (Int64.ofNat 100)) * ((b * (Int32.toInt64 (100 - c))) / (Int64.ofNat 100))))], h0, 0, 0)) rfl (Nat.le_of_ble_eq_true rfl) (Nat.le_of_ble_eq_true rfl) ?_
        refine ar_lrem ok_Mo_worth rfl (by decide +kernel) (w := ((b * (Int32.toInt64 (100 - c))) - (b * (Int32.toInt64 (100 - c))) / (Int64.ofNat 100) * (Int64.ofNat 100))) rfl (pc' := 85) rfl (Nat.le_of_ble_eq_true rfl) (Nat.le_of_ble_eq_true rfl) ?_
        refine am_steps ok_Mo_worth 2 (x' := (89, [some (.ref 22), some (.long a), none, some (.long b), none, some (.int c), some (.long (b * (Int32.toInt64 (100 - c)))), none, some (.long (a / (Int64.ofNat 100))), none, some (.long (a - a / (Int64.ofNat 100) * (Int64.ofNat 100))), none, none, none], [.long (Int64.ofNat 100), .long ((a - a / (Int64.ofNat 100) * (Int64.ofNat 100)) * ((b * (Int32.toInt64 (100 - c))) - (b * (Int32.toInt64 (100 - c))) / (Int64.ofNat 100) * (Int64.ofNat 100))), .long (((a / (Int64.ofNat 100)) * (b * (Int32.toInt64 (100 - c)))) + ((a - a / (Int64.ofNat 100) * (Int64.ofNat 100)) * ((b * (Int32.toInt64 (100 - c))) / (Int64.ofNat 100))))], h0, 0, 0)) rfl (Nat.le_of_ble_eq_true rfl) (Nat.le_of_ble_eq_true rfl) ?_
        refine ar_ldiv ok_Mo_worth rfl (by decide +kernel) (w := (((a - a / (Int64.ofNat 100) * (Int64.ofNat 100)) * ((b * (Int32.toInt64 (100 - c))) - (b * (Int32.toInt64 (100 - c))) / (Int64.ofNat 100) * (Int64.ofNat 100))) / (Int64.ofNat 100))) rfl (pc' := 90) rfl (Nat.le_of_ble_eq_true rfl) (Nat.le_of_ble_eq_true rfl) ?_
        refine am_steps ok_Mo_worth 6 (x' := (if ((lg_cmp ((((a / (Int64.ofNat 100)) * (b * (Int32.toInt64 (100 - c)))) + ((a - a / (Int64.ofNat 100) * (Int64.ofNat 100)) * ((b * (Int32.toInt64 (100 - c))) / (Int64.ofNat 100)))) + (((a - a / (Int64.ofNat 100) * (Int64.ofNat 100)) * ((b * (Int32.toInt64 (100 - c))) - (b * (Int32.toInt64 (100 - c))) / (Int64.ofNat 100) * (Int64.ofNat 100))) / (Int64.ofNat 100))) (Int64.ofNat 4000000000000000000)) : Int32) ≤ 0 then 108 else 102, [some (.ref 22), some (.long a), none, some (.long b), none, some (.int c), some (.long (b * (Int32.toInt64 (100 - c)))), none, some (.long (a / (Int64.ofNat 100))), none, some (.long (a - a / (Int64.ofNat 100) * (Int64.ofNat 100))), none, some (.long ((((a / (Int64.ofNat 100)) * (b * (Int32.toInt64 (100 - c)))) + ((a - a / (Int64.ofNat 100) * (Int64.ofNat 100)) * ((b * (Int32.toInt64 (100 - c))) / (Int64.ofNat 100)))) + (((a - a / (Int64.ofNat 100) * (Int64.ofNat 100)) * ((b * (Int32.toInt64 (100 - c))) - (b * (Int32.toInt64 (100 - c))) / (Int64.ofNat 100) * (Int64.ofNat 100))) / (Int64.ofNat 100)))), none], [], h0, 0, 0)) rfl (Nat.le_of_ble_eq_true rfl) (Nat.le_of_ble_eq_true rfl) ?_
        refine am_if (fun hc4 => ?_) (fun hc4 => ?_)
        · rw [if_pos hc4] at hd
          refine am_steps ok_Mo_worth 1 (x' := (110, [some (.ref 22), some (.long a), none, some (.long b), none, some (.int c), some (.long (b * (Int32.toInt64 (100 - c)))), none, some (.long (a / (Int64.ofNat 100))), none, some (.long (a - a / (Int64.ofNat 100) * (Int64.ofNat 100))), none, some (.long ((((a / (Int64.ofNat 100)) * (b * (Int32.toInt64 (100 - c)))) + ((a - a / (Int64.ofNat 100) * (Int64.ofNat 100)) * ((b * (Int32.toInt64 (100 - c))) / (Int64.ofNat 100)))) + (((a - a / (Int64.ofNat 100) * (Int64.ofNat 100)) * ((b * (Int32.toInt64 (100 - c))) - (b * (Int32.toInt64 (100 - c))) / (Int64.ofNat 100) * (Int64.ofNat 100))) / (Int64.ofNat 100)))), none], [.long ((((a / (Int64.ofNat 100)) * (b * (Int32.toInt64 (100 - c)))) + ((a - a / (Int64.ofNat 100) * (Int64.ofNat 100)) * ((b * (Int32.toInt64 (100 - c))) / (Int64.ofNat 100)))) + (((a - a / (Int64.ofNat 100) * (Int64.ofNat 100)) * ((b * (Int32.toInt64 (100 - c))) - (b * (Int32.toInt64 (100 - c))) / (Int64.ofNat 100) * (Int64.ofNat 100))) / (Int64.ofNat 100)))], h0, 0, 0)) rfl (Nat.le_of_ble_eq_true rfl) (Nat.le_of_ble_eq_true rfl) ?_
          cases hd; exact am_ret ok_Mo_worth rfl (Nat.le_of_ble_eq_true rfl) (Nat.le_of_ble_eq_true rfl) ⟨rfl, rfl⟩
        · rw [if_neg hc4] at hd
          refine am_steps ok_Mo_worth 2 (x' := (110, [some (.ref 22), some (.long a), none, some (.long b), none, some (.int c), some (.long (b * (Int32.toInt64 (100 - c)))), none, some (.long (a / (Int64.ofNat 100))), none, some (.long (a - a / (Int64.ofNat 100) * (Int64.ofNat 100))), none, some (.long ((((a / (Int64.ofNat 100)) * (b * (Int32.toInt64 (100 - c)))) + ((a - a / (Int64.ofNat 100) * (Int64.ofNat 100)) * ((b * (Int32.toInt64 (100 - c))) / (Int64.ofNat 100)))) + (((a - a / (Int64.ofNat 100) * (Int64.ofNat 100)) * ((b * (Int32.toInt64 (100 - c))) - (b * (Int32.toInt64 (100 - c))) / (Int64.ofNat 100) * (Int64.ofNat 100))) / (Int64.ofNat 100)))), none], [.long (Int64.ofNat 4000000000000000001)], h0, 0, 0)) rfl (Nat.le_of_ble_eq_true rfl) (Nat.le_of_ble_eq_true rfl) ?_
          cases hd; exact am_ret ok_Mo_worth rfl (Nat.le_of_ble_eq_true rfl) (Nat.le_of_ble_eq_true rfl) ⟨rfl, rfl⟩
      · rw [if_neg hc3] at hd
        refine am_steps ok_Mo_worth 3 (x' := (53, [some (.ref 22), some (.long a), none, some (.long b), none, some (.int c), some (.long (b * (Int32.toInt64 (100 - c)))), none, some (.long (a / (Int64.ofNat 100))), none, some (.long (a - a / (Int64.ofNat 100) * (Int64.ofNat 100))), none, none, none], [.long (a / (Int64.ofNat 100)), .long (Int64.ofNat 4000000000000000000), .long (b * (Int32.toInt64 (100 - c)))], h0, 0, 0)) rfl (Nat.le_of_ble_eq_true rfl) (Nat.le_of_ble_eq_true rfl) ?_
        split at hd
        · cases hd
        · rename_i hne5
          refine ar_ldiv ok_Mo_worth rfl hne5 (w := ((Int64.ofNat 4000000000000000000) / (a / (Int64.ofNat 100)))) rfl (pc' := 54) rfl (Nat.le_of_ble_eq_true rfl) (Nat.le_of_ble_eq_true rfl) ?_
          refine am_steps ok_Mo_worth 2 (x' := (if ((lg_cmp (b * (Int32.toInt64 (100 - c))) ((Int64.ofNat 4000000000000000000) / (a / (Int64.ofNat 100)))) : Int32) ≤ 0 then 62 else 58, [some (.ref 22), some (.long a), none, some (.long b), none, some (.int c), some (.long (b * (Int32.toInt64 (100 - c)))), none, some (.long (a / (Int64.ofNat 100))), none, some (.long (a - a / (Int64.ofNat 100) * (Int64.ofNat 100))), none, none, none], [], h0, 0, 0)) rfl (Nat.le_of_ble_eq_true rfl) (Nat.le_of_ble_eq_true rfl) ?_
          refine am_if (fun hc6 => ?_) (fun hc6 => ?_)
          · rw [if_pos hc6] at hd
            refine am_steps ok_Mo_worth 6 (x' := (74, [some (.ref 22), some (.long a), none, some (.long b), none, some (.int c), some (.long (b * (Int32.toInt64 (100 - c)))), none, some (.long (a / (Int64.ofNat 100))), none, some (.long (a - a / (Int64.ofNat 100) * (Int64.ofNat 100))), none, none, none], [.long (Int64.ofNat 100), .long (b * (Int32.toInt64 (100 - c))), .long (a - a / (Int64.ofNat 100) * (Int64.ofNat 100)), .long ((a / (Int64.ofNat 100)) * (b * (Int32.toInt64 (100 - c))))], h0, 0, 0)) rfl (Nat.le_of_ble_eq_true rfl) (Nat.le_of_ble_eq_true rfl) ?_
            refine ar_ldiv ok_Mo_worth rfl (by decide +kernel) (w := ((b * (Int32.toInt64 (100 - c))) / (Int64.ofNat 100))) rfl (pc' := 75) rfl (Nat.le_of_ble_eq_true rfl) (Nat.le_of_ble_eq_true rfl) ?_
            refine am_steps ok_Mo_worth 5 (x' := (84, [some (.ref 22), some (.long a), none, some (.long b), none, some (.int c), some (.long (b * (Int32.toInt64 (100 - c)))), none, some (.long (a / (Int64.ofNat 100))), none, some (.long (a - a / (Int64.ofNat 100) * (Int64.ofNat 100))), none, none, none], [.long (Int64.ofNat 100), .long (b * (Int32.toInt64 (100 - c))), .long (a - a / (Int64.ofNat 100) * (Int64.ofNat 100)), .long (((a / (Int64.ofNat 100)) * (b * (Int32.toInt64 (100 - c)))) + ((a - a / (Int64.ofNat 100) * (Int64.ofNat 100)) * ((b * (Int32.toInt64 (100 - c))) / (Int64.ofNat 100))))], h0, 0, 0)) rfl (Nat.le_of_ble_eq_true rfl) (Nat.le_of_ble_eq_true rfl) ?_
            refine ar_lrem ok_Mo_worth rfl (by decide +kernel) (w := ((b * (Int32.toInt64 (100 - c))) - (b * (Int32.toInt64 (100 - c))) / (Int64.ofNat 100) * (Int64.ofNat 100))) rfl (pc' := 85) rfl (Nat.le_of_ble_eq_true rfl) (Nat.le_of_ble_eq_true rfl) ?_
            refine am_steps ok_Mo_worth 2 (x' := (89, [some (.ref 22), some (.long a), none, some (.long b), none, some (.int c), some (.long (b * (Int32.toInt64 (100 - c)))), none, some (.long (a / (Int64.ofNat 100))), none, some (.long (a - a / (Int64.ofNat 100) * (Int64.ofNat 100))), none, none, none], [.long (Int64.ofNat 100), .long ((a - a / (Int64.ofNat 100) * (Int64.ofNat 100)) * ((b * (Int32.toInt64 (100 - c))) - (b * (Int32.toInt64 (100 - c))) / (Int64.ofNat 100) * (Int64.ofNat 100))), .long (((a / (Int64.ofNat 100)) * (b * (Int32.toInt64 (100 - c)))) + ((a - a / (Int64.ofNat 100) * (Int64.ofNat 100)) * ((b * (Int32.toInt64 (100 - c))) / (Int64.ofNat 100))))], h0, 0, 0)) rfl (Nat.le_of_ble_eq_true rfl) (Nat.le_of_ble_eq_true rfl) ?_
            refine ar_ldiv ok_Mo_worth rfl (by decide +kernel) (w := (((a - a / (Int64.ofNat 100) * (Int64.ofNat 100)) * ((b * (Int32.toInt64 (100 - c))) - (b * (Int32.toInt64 (100 - c))) / (Int64.ofNat 100) * (Int64.ofNat 100))) / (Int64.ofNat 100))) rfl (pc' := 90) rfl (Nat.le_of_ble_eq_true rfl) (Nat.le_of_ble_eq_true rfl) ?_
            refine am_steps ok_Mo_worth 6 (x' := (if ((lg_cmp ((((a / (Int64.ofNat 100)) * (b * (Int32.toInt64 (100 - c)))) + ((a - a / (Int64.ofNat 100) * (Int64.ofNat 100)) * ((b * (Int32.toInt64 (100 - c))) / (Int64.ofNat 100)))) + (((a - a / (Int64.ofNat 100) * (Int64.ofNat 100)) * ((b * (Int32.toInt64 (100 - c))) - (b * (Int32.toInt64 (100 - c))) / (Int64.ofNat 100) * (Int64.ofNat 100))) / (Int64.ofNat 100))) (Int64.ofNat 4000000000000000000)) : Int32) ≤ 0 then 108 else 102, [some (.ref 22), some (.long a), none, some (.long b), none, some (.int c), some (.long (b * (Int32.toInt64 (100 - c)))), none, some (.long (a / (Int64.ofNat 100))), none, some (.long (a - a / (Int64.ofNat 100) * (Int64.ofNat 100))), none, some (.long ((((a / (Int64.ofNat 100)) * (b * (Int32.toInt64 (100 - c)))) + ((a - a / (Int64.ofNat 100) * (Int64.ofNat 100)) * ((b * (Int32.toInt64 (100 - c))) / (Int64.ofNat 100)))) + (((a - a / (Int64.ofNat 100) * (Int64.ofNat 100)) * ((b * (Int32.toInt64 (100 - c))) - (b * (Int32.toInt64 (100 - c))) / (Int64.ofNat 100) * (Int64.ofNat 100))) / (Int64.ofNat 100)))), none], [], h0, 0, 0)) rfl (Nat.le_of_ble_eq_true rfl) (Nat.le_of_ble_eq_true rfl) ?_
            refine am_if (fun hc7 => ?_) (fun hc7 => ?_)
            · rw [if_pos hc7] at hd
              refine am_steps ok_Mo_worth 1 (x' := (110, [some (.ref 22), some (.long a), none, some (.long b), none, some (.int c), some (.long (b * (Int32.toInt64 (100 - c)))), none, some (.long (a / (Int64.ofNat 100))), none, some (.long (a - a / (Int64.ofNat 100) * (Int64.ofNat 100))), none, some (.long ((((a / (Int64.ofNat 100)) * (b * (Int32.toInt64 (100 - c)))) + ((a - a / (Int64.ofNat 100) * (Int64.ofNat 100)) * ((b * (Int32.toInt64 (100 - c))) / (Int64.ofNat 100)))) + (((a - a / (Int64.ofNat 100) * (Int64.ofNat 100)) * ((b * (Int32.toInt64 (100 - c))) - (b * (Int32.toInt64 (100 - c))) / (Int64.ofNat 100) * (Int64.ofNat 100))) / (Int64.ofNat 100)))), none], [.long ((((a / (Int64.ofNat 100)) * (b * (Int32.toInt64 (100 - c)))) + ((a - a / (Int64.ofNat 100) * (Int64.ofNat 100)) * ((b * (Int32.toInt64 (100 - c))) / (Int64.ofNat 100)))) + (((a - a / (Int64.ofNat 100) * (Int64.ofNat 100)) * ((b * (Int32.toInt64 (100 - c))) - (b * (Int32.toInt64 (100 - c))) / (Int64.ofNat 100) * (Int64.ofNat 100))) / (Int64.ofNat 100)))], h0, 0, 0)) rfl (Nat.le_of_ble_eq_true rfl) (Nat.le_of_ble_eq_true rfl) ?_
              cases hd; exact am_ret ok_Mo_worth rfl (Nat.le_of_ble_eq_true rfl) (Nat.le_of_ble_eq_true rfl) ⟨rfl, rfl⟩
            · rw [if_neg hc7] at hd
              refine am_steps ok_Mo_worth 2 (x' := (110, [some (.ref 22), some (.long a), none, some (.long b), none, some (.int c), some (.long (b * (Int32.toInt64 (100 - c)))), none, some (.long (a / (Int64.ofNat 100))), none, some (.long (a - a / (Int64.ofNat 100) * (Int64.ofNat 100))), none, some (.long ((((a / (Int64.ofNat 100)) * (b * (Int32.toInt64 (100 - c)))) + ((a - a / (Int64.ofNat 100) * (Int64.ofNat 100)) * ((b * (Int32.toInt64 (100 - c))) / (Int64.ofNat 100)))) + (((a - a / (Int64.ofNat 100) * (Int64.ofNat 100)) * ((b * (Int32.toInt64 (100 - c))) - (b * (Int32.toInt64 (100 - c))) / (Int64.ofNat 100) * (Int64.ofNat 100))) / (Int64.ofNat 100)))), none], [.long (Int64.ofNat 4000000000000000001)], h0, 0, 0)) rfl (Nat.le_of_ble_eq_true rfl) (Nat.le_of_ble_eq_true rfl) ?_
              cases hd; exact am_ret ok_Mo_worth rfl (Nat.le_of_ble_eq_true rfl) (Nat.le_of_ble_eq_true rfl) ⟨rfl, rfl⟩
          · rw [if_neg hc6] at hd
            refine am_steps ok_Mo_worth 1 (x' := (61, [some (.ref 22), some (.long a), none, some (.long b), none, some (.int c), some (.long (b * (Int32.toInt64 (100 - c)))), none, some (.long (a / (Int64.ofNat 100))), none, some (.long (a - a / (Int64.ofNat 100) * (Int64.ofNat 100))), none, none, none], [.long (Int64.ofNat 4000000000000000001)], h0, 0, 0)) rfl (Nat.le_of_ble_eq_true rfl) (Nat.le_of_ble_eq_true rfl) ?_
            cases hd; exact am_ret ok_Mo_worth rfl (Nat.le_of_ble_eq_true rfl) (Nat.le_of_ble_eq_true rfl) ⟨rfl, rfl⟩
    · rw [if_neg hc2] at hd
      refine am_steps ok_Mo_worth 1 (x' := (24, [some (.ref 22), some (.long a), none, some (.long b), none, some (.int c), some (.long (b * (Int32.toInt64 (100 - c)))), none, none, none, none, none, none, none], [.long 0], h0, 0, 0)) rfl (Nat.le_of_ble_eq_true rfl) (Nat.le_of_ble_eq_true rfl) ?_
      cases hd; exact am_ret ok_Mo_worth rfl (Nat.le_of_ble_eq_true rfl) (Nat.le_of_ble_eq_true rfl) ⟨rfl, rfl⟩
