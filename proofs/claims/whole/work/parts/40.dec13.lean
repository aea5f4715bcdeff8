/-! Methods of the reference as functions of its state. -/
def l_Mo_send_24 : Nat → Int32 → Int32 → mS → Option (mS)
  | 0, _, _, _ => none
  | fu + 1, v1, v2, s => if (v1 : Int32) ≤ v2 then (some s) else ((am_ix v2 400).bind fun j5 => (l_Mo_send_24 fu v1 (v2 + 1) (mA s 24 j5 (am_bn 2 (s.2.2.1 23 j5)))))
set_option maxHeartbeats 4000000 in
set_option maxRecDepth 100000 in
theorem L_Mo_send_24 {Q : Option Value → am_H → Prop} (h0 : am_H) : ∀ (fu : Nat) (v1 : Int32) (v2 : Int32) (s : mS) (h : am_H), RM s h → mF h0 h → ∀ q : mS, l_Mo_send_24 fu v1 v2 s = some q → (∀ h' : am_H, RM q h' → mF h0 h' → am_S am_Pr none 7 176 0 0 83 (47, [some (.ref 22), some (.int v1), none], [], h', 0, 0) Q) → am_S am_Pr none 7 176 0 0 83 (24, [some (.ref 22), some (.int v1), some (.int v2)], [], h, 0, 0) Q := by
  intro fu
  induction fu with
  | zero => intro v1 v2 s h hM f q hd; cases hd
  | succ fu ih =>
    intro v1 v2 s h hM f q hd kk
    unfold l_Mo_send_24 at hd
    refine am_steps ok_Mo_send 3 (x' := (if (v1 : Int32) ≤ v2 then 47 else 29, [some (.ref 22), some (.int v1), some (.int v2)], [], h, 0, 0)) rfl (Nat.le_of_ble_eq_true rfl) (Nat.le_of_ble_eq_true rfl) ?_
    refine am_if (fun hc4 => ?_) (fun hc4 => ?_)
    · rw [if_pos hc4] at hd
      refine am_drop 2 ?_
      cases hd; exact kk h hM f
    · rw [if_neg hc4] at hd
      refine am_steps ok_Mo_send 1 (x' := (30, [some (.ref 22), some (.int v1), some (.int v2)], [.ref 22], h, 0, 0)) rfl (Nat.le_of_ble_eq_true rfl) (Nat.le_of_ble_eq_true rfl) ?_
      refine mr_get ok_Mo_send rfl hM (v := .ref 24) rfl (pc' := 33) rfl (Nat.le_of_ble_eq_true rfl) (Nat.le_of_ble_eq_true rfl) ?_
      refine am_steps ok_Mo_send 2 (x' := (35, [some (.ref 22), some (.int v1), some (.int v2)], [.ref 22, .int v2, .ref 24], h, 0, 0)) rfl (Nat.le_of_ble_eq_true rfl) (Nat.le_of_ble_eq_true rfl) ?_
      refine mr_get ok_Mo_send rfl hM (v := .ref 23) rfl (pc' := 38) rfl (Nat.le_of_ble_eq_true rfl) (Nat.le_of_ble_eq_true rfl) ?_
      refine am_steps ok_Mo_send 1 (x' := (39, [some (.ref 22), some (.int v1), some (.int v2)], [.int v2, .ref 23, .int v2, .ref 24], h, 0, 0)) rfl (Nat.le_of_ble_eq_true rfl) (Nat.le_of_ble_eq_true rfl) ?_
      obtain ⟨j5, hx6, hd7⟩ := Option.bind_eq_some_iff.mp hd; clear hd; have hd := hd7; clear hd7
      refine mr_bald ok_Mo_send rfl hM (N := 400) (by decide) (Or.inl rfl) hx6 (pc' := 40) rfl (Nat.le_of_ble_eq_true rfl) (Nat.le_of_ble_eq_true rfl) ?_
      refine mr_bast ok_Mo_send rfl hM (N := 400) (by decide) (Or.inl rfl) hx6 (pc' := 41) rfl (Nat.le_of_ble_eq_true rfl) (Nat.le_of_ble_eq_true rfl) (fun h8 hM9 g11 => ?_)
      have f10 := mF.tr f g11
      refine am_steps ok_Mo_send 2 (x' := (24, [some (.ref 22), some (.int v1), some (.int (v2 + 1))], [], h8, 0, 0)) rfl (Nat.le_of_ble_eq_true rfl) (Nat.le_of_ble_eq_true rfl) ?_
      exact ih v1 (v2 + 1) (mA s 24 j5 (am_bn 2 (s.2.2.1 23 j5))) h8 hM9 f10 q hd kk
def d_Mo_send (a : Int32) (s : mS) : Option (Int32 × mS) := if ((s.1 57) : Int32) = 0 then (some (0, s)) else (if (a : Int32) < 1 then (some (0, s)) else (if (a : Int32) ≤ (s.1 1) then ((l_Mo_send_24 100000 a 0 s).bind fun q12 => ((d_Mo_silence  (mI (mI q12 3 a) 1 0)).bind fun q26 => ((d_Mo_fault  q26).bind fun q35 => (if (q35.1 : Int32) ≤ 0 then (if ¬ (q35.1 : Int32) = (-1) then (if ¬ ((q35.2.1 4) : Int32) = 14 then ((d_Mo_record (4 + a) q35.2).bind fun q47 => (if ¬ (q47.1 : Int32) = 0 then ((d_Mo_isKept  q47.2).bind fun q57 => ((if (q57 : Int32) = 0 then (some q47.2) else ((d_Mo_keep  q47.2).bind fun q85 => (some q85))).bind fun (u68 : mS) => ((d_Mo_answers  u68).bind fun q75 => (some (1, q75))))) else (some (2, q47.2)))) else ((d_Mo_statement  q35.2).bind fun q94 => ((d_Mo_check  q94).bind fun q103 => (some (1, q103))))) else ((d_Mo_putWord 79 75 32 65 71 q35.2).bind fun q112 => ((d_Mo_putWord 65 73 78 10 0 q112).bind fun q121 => ((d_Mo_check  q121).bind fun q130 => (some (1, q130)))))) else ((d_Mo_putWord 78 79 32 (48 + (q35.1 / 10)) (48 + (q35.1 - q35.1 / 10 * 10)) q35.2).bind fun q139 => ((d_Mo_put 10 q139).bind fun q148 => ((d_Mo_check  q148).bind fun q157 => (some (1, q157))))))))) else (some (0, s))))
set_option maxHeartbeats 4000000 in
set_option maxRecDepth 100000 in
theorem k_Mo_send (a : Int32) (s : mS) (h0 : am_H) (hM : RM s h0) (q : Int32 × mS) (hd : d_Mo_send a s = some q) : am_Me am_Pr none 7 176 0 0 83 [.ref 22, .int a] h0 (mQr (.int q.1) q.2 h0) := by
  refine am_enter (d := hd_Mo_send) rfl (by decide +kernel) (Nat.le_of_ble_eq_true rfl) ?_
  show am_S _ _ _ _ _ _ _ (0, [some (.ref 22), some (.int a), none], [], h0, 0, 0) _
  unfold d_Mo_send at hd
  refine am_steps ok_Mo_send 1 (x' := (1, [some (.ref 22), some (.int a), none], [.ref 22], h0, 0, 0)) rfl (Nat.le_of_ble_eq_true rfl) (Nat.le_of_ble_eq_true rfl) ?_
  refine mr_get ok_Mo_send rfl hM (v := .int (s.1 57)) rfl (pc' := 4) rfl (Nat.le_of_ble_eq_true rfl) (Nat.le_of_ble_eq_true rfl) ?_
  refine am_steps ok_Mo_send 1 (x' := (if ((s.1 57) : Int32) = 0 then 20 else 7, [some (.ref 22), some (.int a), none], [], h0, 0, 0)) rfl (Nat.le_of_ble_eq_true rfl) (Nat.le_of_ble_eq_true rfl) ?_
  refine am_if (fun hc1 => ?_) (fun hc1 => ?_)
  · rw [if_pos hc1] at hd
    refine am_steps ok_Mo_send 1 (x' := (21, [some (.ref 22), some (.int a), none], [.int 0], h0, 0, 0)) rfl (Nat.le_of_ble_eq_true rfl) (Nat.le_of_ble_eq_true rfl) ?_
    cases hd; exact am_ret ok_Mo_send rfl (Nat.le_of_ble_eq_true rfl) (Nat.le_of_ble_eq_true rfl) ⟨rfl, hM, (mF.rf)⟩
  · rw [if_neg hc1] at hd
    refine am_steps ok_Mo_send 3 (x' := (if (a : Int32) < 1 then 20 else 12, [some (.ref 22), some (.int a), none], [], h0, 0, 0)) rfl (Nat.le_of_ble_eq_true rfl) (Nat.le_of_ble_eq_true rfl) ?_
    refine am_if (fun hc2 => ?_) (fun hc2 => ?_)
    · rw [if_pos hc2] at hd
      refine am_steps ok_Mo_send 1 (x' := (21, [some (.ref 22), some (.int a), none], [.int 0], h0, 0, 0)) rfl (Nat.le_of_ble_eq_true rfl) (Nat.le_of_ble_eq_true rfl) ?_
      cases hd; exact am_ret ok_Mo_send rfl (Nat.le_of_ble_eq_true rfl) (Nat.le_of_ble_eq_true rfl) ⟨rfl, hM, (mF.rf)⟩
    · rw [if_neg hc2] at hd
      refine am_steps ok_Mo_send 2 (x' := (14, [some (.ref 22), some (.int a), none], [.ref 22, .int a], h0, 0, 0)) rfl (Nat.le_of_ble_eq_true rfl) (Nat.le_of_ble_eq_true rfl) ?_
      refine mr_get ok_Mo_send rfl hM (v := .int (s.1 1)) rfl (pc' := 17) rfl (Nat.le_of_ble_eq_true rfl) (Nat.le_of_ble_eq_true rfl) ?_
      refine am_steps ok_Mo_send 1 (x' := (if (a : Int32) ≤ (s.1 1) then 22 else 20, [some (.ref 22), some (.int a), none], [], h0, 0, 0)) rfl (Nat.le_of_ble_eq_true rfl) (Nat.le_of_ble_eq_true rfl) ?_
      refine am_if (fun hc3 => ?_) (fun hc3 => ?_)
      · rw [if_pos hc3] at hd
        refine am_steps ok_Mo_send 2 (x' := (24, [some (.ref 22), some (.int a), some (.int 0)], [], h0, 0, 0)) rfl (Nat.le_of_ble_eq_true rfl) (Nat.le_of_ble_eq_true rfl) ?_
        obtain ⟨q12, hq13, hd14⟩ := Option.bind_eq_some_iff.mp hd; clear hd; have hd := hd14; clear hd14
        refine L_Mo_send_24 h0 100000 a 0 s h0 hM (mF.rf) q12 hq13 (fun h15 hM16 f17 => ?_)
        show am_S _ _ _ _ _ _ _ (47, [some (.ref 22), some (.int a), none], [], h15, 0, 0) _
        refine am_steps ok_Mo_send 2 (x' := (49, [some (.ref 22), some (.int a), none], [.int a, .ref 22], h15, 0, 0)) rfl (Nat.le_of_ble_eq_true rfl) (Nat.le_of_ble_eq_true rfl) ?_
        refine mr_put ok_Mo_send rfl hM16 (by decide) rfl (s' := (mI q12 3 a)) (mfs_3 _ _) rfl (pc' := 52) rfl (Nat.le_of_ble_eq_true rfl) (Nat.le_of_ble_eq_true rfl) (fun h18 hM19 g21 => ?_)
        have f20 := mF.tr f17 g21
        refine am_steps ok_Mo_send 2 (x' := (54, [some (.ref 22), some (.int a), none], [.int 0, .ref 22], h18, 0, 0)) rfl (Nat.le_of_ble_eq_true rfl) (Nat.le_of_ble_eq_true rfl) ?_
        refine mr_put ok_Mo_send rfl hM19 (by decide) rfl (s' := (mI (mI q12 3 a) 1 0)) (mfs_1 _ _) rfl (pc' := 57) rfl (Nat.le_of_ble_eq_true rfl) (Nat.le_of_ble_eq_true rfl) (fun h22 hM23 g25 => ?_)
        have f24 := mF.tr f20 g25
        refine am_steps ok_Mo_send 1 (x' := (58, [some (.ref 22), some (.int a), none], [.ref 22], h22, 0, 0)) rfl (Nat.le_of_ble_eq_true rfl) (Nat.le_of_ble_eq_true rfl) ?_
        obtain ⟨q26, hq27, hd28⟩ := Option.bind_eq_some_iff.mp hd; clear hd; have hd := hd28; clear hd28
        refine ar_cv ok_Mo_send hk_Mo_silence rfl rfl (As := []) (ad := 22) (rest := []) rfl rfl hM23.1 (Nat.le_of_ble_eq_true rfl) (k_Mo_silence  (mI (mI q12 3 a) 1 0) h22 hM23 q26 hq27) (Nat.le_of_ble_eq_true rfl) (Nat.le_of_ble_eq_true rfl) (Nat.le_of_ble_eq_true rfl) (Nat.le_of_ble_eq_true rfl) (pc' := 61) rfl (fun r29 h31 z30 => ?_)
        obtain ⟨rfl, hM32, g34⟩ := z30
        have f33 := mF.tr f24 g34
        show am_S _ _ _ _ _ _ _ (61, [some (.ref 22), some (.int a), none], [], h31, 0, 0) _
        refine am_steps ok_Mo_send 1 (x' := (62, [some (.ref 22), some (.int a), none], [.ref 22], h31, 0, 0)) rfl (Nat.le_of_ble_eq_true rfl) (Nat.le_of_ble_eq_true rfl) ?_
        obtain ⟨q35, hq36, hd37⟩ := Option.bind_eq_some_iff.mp hd; clear hd; have hd := hd37; clear hd37
        refine ar_cv ok_Mo_send hk_Mo_fault rfl rfl (As := []) (ad := 22) (rest := []) rfl rfl hM32.1 (Nat.le_of_ble_eq_true rfl) (k_Mo_fault  q26 h31 hM32 q35 hq36) (Nat.le_of_ble_eq_true rfl) (Nat.le_of_ble_eq_true rfl) (Nat.le_of_ble_eq_true rfl) (Nat.le_of_ble_eq_true rfl) (pc' := 65) rfl (fun r38 h40 z39 => ?_)
        obtain ⟨rfl, hM41, g43⟩ := z39
        have f42 := mF.tr f33 g43
        show am_S _ _ _ _ _ _ _ (65, [some (.ref 22), some (.int a), none], [.int q35.1], h40, 0, 0) _
        refine am_steps ok_Mo_send 3 (x' := (if (q35.1 : Int32) ≤ 0 then 106 else 70, [some (.ref 22), some (.int a), some (.int q35.1)], [], h40, 0, 0)) rfl (Nat.le_of_ble_eq_true rfl) (Nat.le_of_ble_eq_true rfl) ?_
        refine am_if (fun hc44 => ?_) (fun hc44 => ?_)
        · rw [if_pos hc44] at hd
          refine am_steps ok_Mo_send 3 (x' := (if ¬ (q35.1 : Int32) = (-1) then 144 else 111, [some (.ref 22), some (.int a), some (.int q35.1)], [], h40, 0, 0)) rfl (Nat.le_of_ble_eq_true rfl) (Nat.le_of_ble_eq_true rfl) ?_
          refine am_if (fun hc45 => ?_) (fun hc45 => ?_)
          · rw [if_pos hc45] at hd
            refine am_steps ok_Mo_send 1 (x' := (145, [some (.ref 22), some (.int a), some (.int q35.1)], [.ref 22], h40, 0, 0)) rfl (Nat.le_of_ble_eq_true rfl) (Nat.le_of_ble_eq_true rfl) ?_
            refine mr_get ok_Mo_send rfl hM41 (v := .int (q35.2.1 4)) rfl (pc' := 148) rfl (Nat.le_of_ble_eq_true rfl) (Nat.le_of_ble_eq_true rfl) ?_
            refine am_steps ok_Mo_send 2 (x' := (if ¬ ((q35.2.1 4) : Int32) = 14 then 163 else 153, [some (.ref 22), some (.int a), some (.int q35.1)], [], h40, 0, 0)) rfl (Nat.le_of_ble_eq_true rfl) (Nat.le_of_ble_eq_true rfl) ?_
            refine am_if (fun hc46 => ?_) (fun hc46 => ?_)
            · rw [if_pos hc46] at hd
              refine am_steps ok_Mo_send 4 (x' := (167, [some (.ref 22), some (.int a), some (.int q35.1)], [.int (4 + a), .ref 22], h40, 0, 0)) rfl (Nat.le_of_ble_eq_true rfl) (Nat.le_of_ble_eq_true rfl) ?_
              obtain ⟨q47, hq48, hd49⟩ := Option.bind_eq_some_iff.mp hd; clear hd; have hd := hd49; clear hd49
              refine ar_cv ok_Mo_send hk_Mo_record rfl rfl (As := [.int (4 + a)]) (ad := 22) (rest := []) rfl rfl hM41.1 (Nat.le_of_ble_eq_true rfl) (k_Mo_record (4 + a) q35.2 h40 hM41 q47 hq48) (Nat.le_of_ble_eq_true rfl) (Nat.le_of_ble_eq_true rfl) (Nat.le_of_ble_eq_true rfl) (Nat.le_of_ble_eq_true rfl) (pc' := 170) rfl (fun r50 h52 z51 => ?_)
              obtain ⟨rfl, hM53, g55⟩ := z51
              have f54 := mF.tr f42 g55
              show am_S _ _ _ _ _ _ _ (170, [some (.ref 22), some (.int a), some (.int q35.1)], [.int q47.1], h52, 0, 0) _
              refine am_steps ok_Mo_send 1 (x' := (if ¬ (q47.1 : Int32) = 0 then 175 else 173, [some (.ref 22), some (.int a), some (.int q35.1)], [], h52, 0, 0)) rfl (Nat.le_of_ble_eq_true rfl) (Nat.le_of_ble_eq_true rfl) ?_
              refine am_if (fun hc56 => ?_) (fun hc56 => ?_)
              · rw [if_pos hc56] at hd
                refine am_steps ok_Mo_send 1 (x' := (176, [some (.ref 22), some (.int a), some (.int q35.1)], [.ref 22], h52, 0, 0)) rfl (Nat.le_of_ble_eq_true rfl) (Nat.le_of_ble_eq_true rfl) ?_
                obtain ⟨q57, hq58, hd59⟩ := Option.bind_eq_some_iff.mp hd; clear hd; have hd := hd59; clear hd59
                refine ar_cv ok_Mo_send hk_Mo_isKept rfl rfl (As := []) (ad := 22) (rest := []) rfl rfl hM53.1 (Nat.le_of_ble_eq_true rfl) (k_Mo_isKept  q47.2 h52 hM53 q57 hq58) (Nat.le_of_ble_eq_true rfl) (Nat.le_of_ble_eq_true rfl) (Nat.le_of_ble_eq_true rfl) (Nat.le_of_ble_eq_true rfl) (pc' := 179) rfl (fun r60 h62 z61 => ?_)
                obtain ⟨z66, z67⟩ := z61; subst z66; rw [z67]
                show am_S _ _ _ _ _ _ _ (179, [some (.ref 22), some (.int a), some (.int q35.1)], [.int q57], h52, 0, 0) _
                refine am_steps ok_Mo_send 1 (x' := (if (q57 : Int32) = 0 then 186 else 182, [some (.ref 22), some (.int a), some (.int q35.1)], [], h52, 0, 0)) rfl (Nat.le_of_ble_eq_true rfl) (Nat.le_of_ble_eq_true rfl) ?_
                obtain ⟨u68, hA70, hB71⟩ := Option.bind_eq_some_iff.mp hd; clear hd
                have K69 : ∀ h' : am_H, RM u68 h' → mF h0 h' → am_S am_Pr none 7 176 0 0 83 (186, [some (.ref 22), none, none], [], h', 0, 0) (mQr (.int q.1) q.2 h0) := by
                  have hd := hB71
                  intro h72 hM73 f74
                  refine am_steps ok_Mo_send 1 (x' := (187, [some (.ref 22), none, none], [.ref 22], h72, 0, 0)) rfl (Nat.le_of_ble_eq_true rfl) (Nat.le_of_ble_eq_true rfl) ?_
                  obtain ⟨q75, hq76, hd77⟩ := Option.bind_eq_some_iff.mp hd; clear hd; have hd := hd77; clear hd77
                  refine ar_cv ok_Mo_send hk_Mo_answers rfl rfl (As := []) (ad := 22) (rest := []) rfl rfl hM73.1 (Nat.le_of_ble_eq_true rfl) (k_Mo_answers  u68 h72 hM73 q75 hq76) (Nat.le_of_ble_eq_true rfl) (Nat.le_of_ble_eq_true rfl) (Nat.le_of_ble_eq_true rfl) (Nat.le_of_ble_eq_true rfl) (pc' := 190) rfl (fun r78 h80 z79 => ?_)
                  obtain ⟨rfl, hM81, g83⟩ := z79
                  have f82 := mF.tr f74 g83
                  show am_S _ _ _ _ _ _ _ (190, [some (.ref 22), none, none], [], h80, 0, 0) _
                  refine am_steps ok_Mo_send 1 (x' := (191, [some (.ref 22), none, none], [.int 1], h80, 0, 0)) rfl (Nat.le_of_ble_eq_true rfl) (Nat.le_of_ble_eq_true rfl) ?_
                  cases hd; exact am_ret ok_Mo_send rfl (Nat.le_of_ble_eq_true rfl) (Nat.le_of_ble_eq_true rfl) ⟨rfl, hM81, f82⟩
                clear hB71; have hd := hA70; clear hA70
                refine am_if (fun hc84 => ?_) (fun hc84 => ?_)
                · rw [if_pos hc84] at hd
                  refine am_drop 1 ?_
                  refine am_drop 2 ?_
                  cases hd; exact K69 h52 hM53 f54
                · rw [if_neg hc84] at hd
                  refine am_steps ok_Mo_send 1 (x' := (183, [some (.ref 22), some (.int a), some (.int q35.1)], [.ref 22], h52, 0, 0)) rfl (Nat.le_of_ble_eq_true rfl) (Nat.le_of_ble_eq_true rfl) ?_
                  obtain ⟨q85, hq86, hd87⟩ := Option.bind_eq_some_iff.mp hd; clear hd; have hd := hd87; clear hd87
                  refine ar_cv ok_Mo_send hk_Mo_keep rfl rfl (As := []) (ad := 22) (rest := []) rfl rfl hM53.1 (Nat.le_of_ble_eq_true rfl) (k_Mo_keep  q47.2 h52 hM53 q85 hq86) (Nat.le_of_ble_eq_true rfl) (Nat.le_of_ble_eq_true rfl) (Nat.le_of_ble_eq_true rfl) (Nat.le_of_ble_eq_true rfl) (pc' := 186) rfl (fun r88 h90 z89 => ?_)
                  obtain ⟨rfl, hM91, g93⟩ := z89
                  have f92 := mF.tr f54 g93
                  show am_S _ _ _ _ _ _ _ (186, [some (.ref 22), some (.int a), some (.int q35.1)], [], h90, 0, 0) _
                  refine am_drop 1 ?_
                  refine am_drop 2 ?_
                  cases hd; exact K69 h90 hM91 f92
              · rw [if_neg hc56] at hd
                refine am_steps ok_Mo_send 1 (x' := (174, [some (.ref 22), some (.int a), some (.int q35.1)], [.int 2], h52, 0, 0)) rfl (Nat.le_of_ble_eq_true rfl) (Nat.le_of_ble_eq_true rfl) ?_
                cases hd; exact am_ret ok_Mo_send rfl (Nat.le_of_ble_eq_true rfl) (Nat.le_of_ble_eq_true rfl) ⟨rfl, hM53, f54⟩
            · rw [if_neg hc46] at hd
              refine am_steps ok_Mo_send 1 (x' := (154, [some (.ref 22), some (.int a), some (.int q35.1)], [.ref 22], h40, 0, 0)) rfl (Nat.le_of_ble_eq_true rfl) (Nat.le_of_ble_eq_true rfl) ?_
              obtain ⟨q94, hq95, hd96⟩ := Option.bind_eq_some_iff.mp hd; clear hd; have hd := hd96; clear hd96
              refine ar_cv ok_Mo_send hk_Mo_statement rfl rfl (As := []) (ad := 22) (rest := []) rfl rfl hM41.1 (Nat.le_of_ble_eq_true rfl) (k_Mo_statement  q35.2 h40 hM41 q94 hq95) (Nat.le_of_ble_eq_true rfl) (Nat.le_of_ble_eq_true rfl) (Nat.le_of_ble_eq_true rfl) (Nat.le_of_ble_eq_true rfl) (pc' := 157) rfl (fun r97 h99 z98 => ?_)
              obtain ⟨rfl, hM100, g102⟩ := z98
              have f101 := mF.tr f42 g102
              show am_S _ _ _ _ _ _ _ (157, [some (.ref 22), some (.int a), some (.int q35.1)], [], h99, 0, 0) _
              refine am_steps ok_Mo_send 1 (x' := (158, [some (.ref 22), some (.int a), some (.int q35.1)], [.ref 22], h99, 0, 0)) rfl (Nat.le_of_ble_eq_true rfl) (Nat.le_of_ble_eq_true rfl) ?_
              obtain ⟨q103, hq104, hd105⟩ := Option.bind_eq_some_iff.mp hd; clear hd; have hd := hd105; clear hd105
              refine ar_cv ok_Mo_send hk_Mo_check rfl rfl (As := []) (ad := 22) (rest := []) rfl rfl hM100.1 (Nat.le_of_ble_eq_true rfl) (k_Mo_check  q94 h99 hM100 q103 hq104) (Nat.le_of_ble_eq_true rfl) (Nat.le_of_ble_eq_true rfl) (Nat.le_of_ble_eq_true rfl) (Nat.le_of_ble_eq_true rfl) (pc' := 161) rfl (fun r106 h108 z107 => ?_)
              obtain ⟨rfl, hM109, g111⟩ := z107
              have f110 := mF.tr f101 g111
              show am_S _ _ _ _ _ _ _ (161, [some (.ref 22), some (.int a), some (.int q35.1)], [], h108, 0, 0) _
              refine am_steps ok_Mo_send 1 (x' := (162, [some (.ref 22), some (.int a), some (.int q35.1)], [.int 1], h108, 0, 0)) rfl (Nat.le_of_ble_eq_true rfl) (Nat.le_of_ble_eq_true rfl) ?_
              cases hd; exact am_ret ok_Mo_send rfl (Nat.le_of_ble_eq_true rfl) (Nat.le_of_ble_eq_true rfl) ⟨rfl, hM109, f110⟩
          · rw [if_neg hc45] at hd
            refine am_steps ok_Mo_send 6 (x' := (122, [some (.ref 22), some (.int a), some (.int q35.1)], [.int 71, .int 65, .int 32, .int 75, .int 79, .ref 22], h40, 0, 0)) rfl (Nat.le_of_ble_eq_true rfl) (Nat.le_of_ble_eq_true rfl) ?_
            obtain ⟨q112, hq113, hd114⟩ := Option.bind_eq_some_iff.mp hd; clear hd; have hd := hd114; clear hd114
            refine ar_cv ok_Mo_send hk_Mo_putWord rfl rfl (As := [.int 79, .int 75, .int 32, .int 65, .int 71]) (ad := 22) (rest := []) rfl rfl hM41.1 (Nat.le_of_ble_eq_true rfl) (k_Mo_putWord 79 75 32 65 71 q35.2 h40 hM41 q112 hq113) (Nat.le_of_ble_eq_true rfl) (Nat.le_of_ble_eq_true rfl) (Nat.le_of_ble_eq_true rfl) (Nat.le_of_ble_eq_true rfl) (pc' := 125) rfl (fun r115 h117 z116 => ?_)
            obtain ⟨rfl, hM118, g120⟩ := z116
            have f119 := mF.tr f42 g120
            show am_S _ _ _ _ _ _ _ (125, [some (.ref 22), some (.int a), some (.int q35.1)], [], h117, 0, 0) _
            refine am_steps ok_Mo_send 6 (x' := (135, [some (.ref 22), some (.int a), some (.int q35.1)], [.int 0, .int 10, .int 78, .int 73, .int 65, .ref 22], h117, 0, 0)) rfl (Nat.le_of_ble_eq_true rfl) (Nat.le_of_ble_eq_true rfl) ?_
            obtain ⟨q121, hq122, hd123⟩ := Option.bind_eq_some_iff.mp hd; clear hd; have hd := hd123; clear hd123
            refine ar_cv ok_Mo_send hk_Mo_putWord rfl rfl (As := [.int 65, .int 73, .int 78, .int 10, .int 0]) (ad := 22) (rest := []) rfl rfl hM118.1 (Nat.le_of_ble_eq_true rfl) (k_Mo_putWord 65 73 78 10 0 q112 h117 hM118 q121 hq122) (Nat.le_of_ble_eq_true rfl) (Nat.le_of_ble_eq_true rfl) (Nat.le_of_ble_eq_true rfl) (Nat.le_of_ble_eq_true rfl) (pc' := 138) rfl (fun r124 h126 z125 => ?_)
            obtain ⟨rfl, hM127, g129⟩ := z125
            have f128 := mF.tr f119 g129
            show am_S _ _ _ _ _ _ _ (138, [some (.ref 22), some (.int a), some (.int q35.1)], [], h126, 0, 0) _
            refine am_steps ok_Mo_send 1 (x' := (139, [some (.ref 22), some (.int a), some (.int q35.1)], [.ref 22], h126, 0, 0)) rfl (Nat.le_of_ble_eq_true rfl) (Nat.le_of_ble_eq_true rfl) ?_
            obtain ⟨q130, hq131, hd132⟩ := Option.bind_eq_some_iff.mp hd; clear hd; have hd := hd132; clear hd132
            refine ar_cv ok_Mo_send hk_Mo_check rfl rfl (As := []) (ad := 22) (rest := []) rfl rfl hM127.1 (Nat.le_of_ble_eq_true rfl) (k_Mo_check  q121 h126 hM127 q130 hq131) (Nat.le_of_ble_eq_true rfl) (Nat.le_of_ble_eq_true rfl) (Nat.le_of_ble_eq_true rfl) (Nat.le_of_ble_eq_true rfl) (pc' := 142) rfl (fun r133 h135 z134 => ?_)
            obtain ⟨rfl, hM136, g138⟩ := z134
            have f137 := mF.tr f128 g138
            show am_S _ _ _ _ _ _ _ (142, [some (.ref 22), some (.int a), some (.int q35.1)], [], h135, 0, 0) _
            refine am_steps ok_Mo_send 1 (x' := (143, [some (.ref 22), some (.int a), some (.int q35.1)], [.int 1], h135, 0, 0)) rfl (Nat.le_of_ble_eq_true rfl) (Nat.le_of_ble_eq_true rfl) ?_
            cases hd; exact am_ret ok_Mo_send rfl (Nat.le_of_ble_eq_true rfl) (Nat.le_of_ble_eq_true rfl) ⟨rfl, hM136, f137⟩
        · rw [if_neg hc44] at hd
          refine am_steps ok_Mo_send 7 (x' := (82, [some (.ref 22), some (.int a), some (.int q35.1)], [.int 10, .int q35.1, .int 48, .int 32, .int 79, .int 78, .ref 22], h40, 0, 0)) rfl (Nat.le_of_ble_eq_true rfl) (Nat.le_of_ble_eq_true rfl) ?_
          refine ar_idiv ok_Mo_send rfl (by decide +kernel) (w := (q35.1 / 10)) rfl (pc' := 83) rfl (Nat.le_of_ble_eq_true rfl) (Nat.le_of_ble_eq_true rfl) ?_
          refine am_steps ok_Mo_send 4 (x' := (89, [some (.ref 22), some (.int a), some (.int q35.1)], [.int 10, .int q35.1, .int 48, .int (48 + (q35.1 / 10)), .int 32, .int 79, .int 78, .ref 22], h40, 0, 0)) rfl (Nat.le_of_ble_eq_true rfl) (Nat.le_of_ble_eq_true rfl) ?_
          refine ar_irem ok_Mo_send rfl (by decide +kernel) (w := (q35.1 - q35.1 / 10 * 10)) rfl (pc' := 90) rfl (Nat.le_of_ble_eq_true rfl) (Nat.le_of_ble_eq_true rfl) ?_
          refine am_steps ok_Mo_send 1 (x' := (91, [some (.ref 22), some (.int a), some (.int q35.1)], [.int (48 + (q35.1 - q35.1 / 10 * 10)), .int (48 + (q35.1 / 10)), .int 32, .int 79, .int 78, .ref 22], h40, 0, 0)) rfl (Nat.le_of_ble_eq_true rfl) (Nat.le_of_ble_eq_true rfl) ?_
          obtain ⟨q139, hq140, hd141⟩ := Option.bind_eq_some_iff.mp hd; clear hd; have hd := hd141; clear hd141
          refine ar_cv ok_Mo_send hk_Mo_putWord rfl rfl (As := [.int 78, .int 79, .int 32, .int (48 + (q35.1 / 10)), .int (48 + (q35.1 - q35.1 / 10 * 10))]) (ad := 22) (rest := []) rfl rfl hM41.1 (Nat.le_of_ble_eq_true rfl) (k_Mo_putWord 78 79 32 (48 + (q35.1 / 10)) (48 + (q35.1 - q35.1 / 10 * 10)) q35.2 h40 hM41 q139 hq140) (Nat.le_of_ble_eq_true rfl) (Nat.le_of_ble_eq_true rfl) (Nat.le_of_ble_eq_true rfl) (Nat.le_of_ble_eq_true rfl) (pc' := 94) rfl (fun r142 h144 z143 => ?_)
          obtain ⟨rfl, hM145, g147⟩ := z143
          have f146 := mF.tr f42 g147
          show am_S _ _ _ _ _ _ _ (94, [some (.ref 22), some (.int a), some (.int q35.1)], [], h144, 0, 0) _
          refine am_steps ok_Mo_send 2 (x' := (97, [some (.ref 22), some (.int a), some (.int q35.1)], [.int 10, .ref 22], h144, 0, 0)) rfl (Nat.le_of_ble_eq_true rfl) (Nat.le_of_ble_eq_true rfl) ?_
          obtain ⟨q148, hq149, hd150⟩ := Option.bind_eq_some_iff.mp hd; clear hd; have hd := hd150; clear hd150
          refine ar_cv ok_Mo_send hk_Mo_put rfl rfl (As := [.int 10]) (ad := 22) (rest := []) rfl rfl hM145.1 (Nat.le_of_ble_eq_true rfl) (k_Mo_put 10 q139 h144 hM145 q148 hq149) (Nat.le_of_ble_eq_true rfl) (Nat.le_of_ble_eq_true rfl) (Nat.le_of_ble_eq_true rfl) (Nat.le_of_ble_eq_true rfl) (pc' := 100) rfl (fun r151 h153 z152 => ?_)
          obtain ⟨rfl, hM154, g156⟩ := z152
          have f155 := mF.tr f146 g156
          show am_S _ _ _ _ _ _ _ (100, [some (.ref 22), some (.int a), some (.int q35.1)], [], h153, 0, 0) _
          refine am_steps ok_Mo_send 1 (x' := (101, [some (.ref 22), some (.int a), some (.int q35.1)], [.ref 22], h153, 0, 0)) rfl (Nat.le_of_ble_eq_true rfl) (Nat.le_of_ble_eq_true rfl) ?_
          obtain ⟨q157, hq158, hd159⟩ := Option.bind_eq_some_iff.mp hd; clear hd; have hd := hd159; clear hd159
          refine ar_cv ok_Mo_send hk_Mo_check rfl rfl (As := []) (ad := 22) (rest := []) rfl rfl hM154.1 (Nat.le_of_ble_eq_true rfl) (k_Mo_check  q148 h153 hM154 q157 hq158) (Nat.le_of_ble_eq_true rfl) (Nat.le_of_ble_eq_true rfl) (Nat.le_of_ble_eq_true rfl) (Nat.le_of_ble_eq_true rfl) (pc' := 104) rfl (fun r160 h162 z161 => ?_)
          obtain ⟨rfl, hM163, g165⟩ := z161
          have f164 := mF.tr f155 g165
          show am_S _ _ _ _ _ _ _ (104, [some (.ref 22), some (.int a), some (.int q35.1)], [], h162, 0, 0) _
          refine am_steps ok_Mo_send 1 (x' := (105, [some (.ref 22), some (.int a), some (.int q35.1)], [.int 1], h162, 0, 0)) rfl (Nat.le_of_ble_eq_true rfl) (Nat.le_of_ble_eq_true rfl) ?_
          cases hd; exact am_ret ok_Mo_send rfl (Nat.le_of_ble_eq_true rfl) (Nat.le_of_ble_eq_true rfl) ⟨rfl, hM163, f164⟩
      · rw [if_neg hc3] at hd
        refine am_steps ok_Mo_send 1 (x' := (21, [some (.ref 22), some (.int a), none], [.int 0], h0, 0, 0)) rfl (Nat.le_of_ble_eq_true rfl) (Nat.le_of_ble_eq_true rfl) ?_
        cases hd; exact am_ret ok_Mo_send rfl (Nat.le_of_ble_eq_true rfl) (Nat.le_of_ble_eq_true rfl) ⟨rfl, hM, (mF.rf)⟩
def l_Mo_newDay_22 : Nat → Int32 → mS → Option (mS)
  | 0, _, _ => none
  | fu + 1, v1, s => if ((Int32.ofNat 65536) : Int32) ≤ v1 then (some s) else ((am_ix v1 65536).bind fun j14 => (l_Mo_newDay_22 fu (v1 + 1) (mB s 37 j14 0)))
set_option maxHeartbeats 4000000 in
set_option maxRecDepth 100000 in
theorem L_Mo_newDay_22 {Q : Option Value → am_H → Prop} (h0 : am_H) : ∀ (fu : Nat) (v1 : Int32) (s : mS) (h : am_H), RM s h → mF h0 h → ∀ q : mS, l_Mo_newDay_22 fu v1 s = some q → (∀ h' : am_H, RM q h' → mF h0 h' → am_S am_Pr none 0 0 0 0 84 (41, [some (.ref 22), none], [], h', 0, 0) Q) → am_S am_Pr none 0 0 0 0 84 (22, [some (.ref 22), some (.int v1)], [], h, 0, 0) Q := by
  intro fu
  induction fu with
  | zero => intro v1 s h hM f q hd; cases hd
  | succ fu ih =>
    intro v1 s h hM f q hd kk
    unfold l_Mo_newDay_22 at hd
    refine am_steps ok_Mo_newDay 3 (x' := (if ((Int32.ofNat 65536) : Int32) ≤ v1 then 41 else 28, [some (.ref 22), some (.int v1)], [], h, 0, 0)) rfl (Nat.le_of_ble_eq_true rfl) (Nat.le_of_ble_eq_true rfl) ?_
    refine am_if (fun hc13 => ?_) (fun hc13 => ?_)
    · rw [if_pos hc13] at hd
      refine am_drop 1 ?_
      cases hd; exact kk h hM f
    · rw [if_neg hc13] at hd
      refine am_steps ok_Mo_newDay 1 (x' := (29, [some (.ref 22), some (.int v1)], [.ref 22], h, 0, 0)) rfl (Nat.le_of_ble_eq_true rfl) (Nat.le_of_ble_eq_true rfl) ?_
      refine mr_get ok_Mo_newDay rfl hM (v := .ref 37) rfl (pc' := 32) rfl (Nat.le_of_ble_eq_true rfl) (Nat.le_of_ble_eq_true rfl) ?_
      refine am_steps ok_Mo_newDay 2 (x' := (34, [some (.ref 22), some (.int v1)], [.long 0, .int v1, .ref 37], h, 0, 0)) rfl (Nat.le_of_ble_eq_true rfl) (Nat.le_of_ble_eq_true rfl) ?_
      obtain ⟨j14, hx15, hd16⟩ := Option.bind_eq_some_iff.mp hd; clear hd; have hd := hd16; clear hd16
      refine mr_last ok_Mo_newDay rfl hM (N := 65536) (by decide) hx15 (pc' := 35) rfl (Nat.le_of_ble_eq_true rfl) (Nat.le_of_ble_eq_true rfl) (fun h17 hM18 g20 => ?_)
      have f19 := mF.tr f g20
      refine am_steps ok_Mo_newDay 2 (x' := (22, [some (.ref 22), some (.int (v1 + 1))], [], h17, 0, 0)) rfl (Nat.le_of_ble_eq_true rfl) (Nat.le_of_ble_eq_true rfl) ?_
      exact ih (v1 + 1) (mB s 37 j14 0) h17 hM18 f19 q hd kk
def l_Mo_newDay_43 : Nat → Int32 → mS → Option (mS)
  | 0, _, _ => none
  | fu + 1, v1, s => if (16384 : Int32) ≤ v1 then (some s) else ((am_ix v1 16384).bind fun j28 => (l_Mo_newDay_43 fu (v1 + 1) (mA (mB (mB (mB s 33 j28 (s.2.2.2 31 j28)) 34 j28 0) 35 j28 0) 36 j28 0)))
set_option maxHeartbeats 4000000 in
set_option maxRecDepth 100000 in
theorem L_Mo_newDay_43 {Q : Option Value → am_H → Prop} (h0 : am_H) : ∀ (fu : Nat) (v1 : Int32) (s : mS) (h : am_H), RM s h → mF h0 h → ∀ q : mS, l_Mo_newDay_43 fu v1 s = some q → (∀ h' : am_H, RM q h' → mF h0 h' → am_S am_Pr none 0 0 0 0 84 (89, [some (.ref 22), none], [], h', 0, 0) Q) → am_S am_Pr none 0 0 0 0 84 (43, [some (.ref 22), some (.int v1)], [], h, 0, 0) Q := by
  intro fu
  induction fu with
  | zero => intro v1 s h hM f q hd; cases hd
  | succ fu ih =>
    intro v1 s h hM f q hd kk
    unfold l_Mo_newDay_43 at hd
    refine am_steps ok_Mo_newDay 3 (x' := (if (16384 : Int32) ≤ v1 then 89 else 50, [some (.ref 22), some (.int v1)], [], h, 0, 0)) rfl (Nat.le_of_ble_eq_true rfl) (Nat.le_of_ble_eq_true rfl) ?_
    refine am_if (fun hc27 => ?_) (fun hc27 => ?_)
    · rw [if_pos hc27] at hd
      refine am_drop 1 ?_
      cases hd; exact kk h hM f
    · rw [if_neg hc27] at hd
      refine am_steps ok_Mo_newDay 1 (x' := (51, [some (.ref 22), some (.int v1)], [.ref 22], h, 0, 0)) rfl (Nat.le_of_ble_eq_true rfl) (Nat.le_of_ble_eq_true rfl) ?_
      refine mr_get ok_Mo_newDay rfl hM (v := .ref 33) rfl (pc' := 54) rfl (Nat.le_of_ble_eq_true rfl) (Nat.le_of_ble_eq_true rfl) ?_
      refine am_steps ok_Mo_newDay 2 (x' := (56, [some (.ref 22), some (.int v1)], [.ref 22, .int v1, .ref 33], h, 0, 0)) rfl (Nat.le_of_ble_eq_true rfl) (Nat.le_of_ble_eq_true rfl) ?_
      refine mr_get ok_Mo_newDay rfl hM (v := .ref 31) rfl (pc' := 59) rfl (Nat.le_of_ble_eq_true rfl) (Nat.le_of_ble_eq_true rfl) ?_
      refine am_steps ok_Mo_newDay 1 (x' := (60, [some (.ref 22), some (.int v1)], [.int v1, .ref 31, .int v1, .ref 33], h, 0, 0)) rfl (Nat.le_of_ble_eq_true rfl) (Nat.le_of_ble_eq_true rfl) ?_
      obtain ⟨j28, hx29, hd30⟩ := Option.bind_eq_some_iff.mp hd; clear hd; have hd := hd30; clear hd30
      refine mr_lald ok_Mo_newDay rfl hM (N := 16384) (by decide) hx29 (pc' := 61) rfl (Nat.le_of_ble_eq_true rfl) (Nat.le_of_ble_eq_true rfl) ?_
      refine mr_last ok_Mo_newDay rfl hM (N := 16384) (by decide) hx29 (pc' := 62) rfl (Nat.le_of_ble_eq_true rfl) (Nat.le_of_ble_eq_true rfl) (fun h31 hM32 g34 => ?_)
      have f33 := mF.tr f g34
      refine am_steps ok_Mo_newDay 1 (x' := (63, [some (.ref 22), some (.int v1)], [.ref 22], h31, 0, 0)) rfl (Nat.le_of_ble_eq_true rfl) (Nat.le_of_ble_eq_true rfl) ?_
      refine mr_get ok_Mo_newDay rfl hM32 (v := .ref 34) rfl (pc' := 66) rfl (Nat.le_of_ble_eq_true rfl) (Nat.le_of_ble_eq_true rfl) ?_
      refine am_steps ok_Mo_newDay 2 (x' := (68, [some (.ref 22), some (.int v1)], [.long 0, .int v1, .ref 34], h31, 0, 0)) rfl (Nat.le_of_ble_eq_true rfl) (Nat.le_of_ble_eq_true rfl) ?_
      refine mr_last ok_Mo_newDay rfl hM32 (N := 16384) (by decide) hx29 (pc' := 69) rfl (Nat.le_of_ble_eq_true rfl) (Nat.le_of_ble_eq_true rfl) (fun h35 hM36 g38 => ?_)
      have f37 := mF.tr f33 g38
      refine am_steps ok_Mo_newDay 1 (x' := (70, [some (.ref 22), some (.int v1)], [.ref 22], h35, 0, 0)) rfl (Nat.le_of_ble_eq_true rfl) (Nat.le_of_ble_eq_true rfl) ?_
      refine mr_get ok_Mo_newDay rfl hM36 (v := .ref 35) rfl (pc' := 73) rfl (Nat.le_of_ble_eq_true rfl) (Nat.le_of_ble_eq_true rfl) ?_
      refine am_steps ok_Mo_newDay 2 (x' := (75, [some (.ref 22), some (.int v1)], [.long 0, .int v1, .ref 35], h35, 0, 0)) rfl (Nat.le_of_ble_eq_true rfl) (Nat.le_of_ble_eq_true rfl) ?_
      refine mr_last ok_Mo_newDay rfl hM36 (N := 16384) (by decide) hx29 (pc' := 76) rfl (Nat.le_of_ble_eq_true rfl) (Nat.le_of_ble_eq_true rfl) (fun h39 hM40 g42 => ?_)
      have f41 := mF.tr f37 g42
      refine am_steps ok_Mo_newDay 1 (x' := (77, [some (.ref 22), some (.int v1)], [.ref 22], h39, 0, 0)) rfl (Nat.le_of_ble_eq_true rfl) (Nat.le_of_ble_eq_true rfl) ?_
      refine mr_get ok_Mo_newDay rfl hM40 (v := .ref 36) rfl (pc' := 80) rfl (Nat.le_of_ble_eq_true rfl) (Nat.le_of_ble_eq_true rfl) ?_
      refine am_steps ok_Mo_newDay 2 (x' := (82, [some (.ref 22), some (.int v1)], [.int 0, .int v1, .ref 36], h39, 0, 0)) rfl (Nat.le_of_ble_eq_true rfl) (Nat.le_of_ble_eq_true rfl) ?_
      refine mr_iast ok_Mo_newDay rfl hM40 (N := 16384) (by decide) hx29 (pc' := 83) rfl (Nat.le_of_ble_eq_true rfl) (Nat.le_of_ble_eq_true rfl) (fun h43 hM44 g46 => ?_)
      have f45 := mF.tr f41 g46
      refine am_steps ok_Mo_newDay 2 (x' := (43, [some (.ref 22), some (.int (v1 + 1))], [], h43, 0, 0)) rfl (Nat.le_of_ble_eq_true rfl) (Nat.le_of_ble_eq_true rfl) ?_
      exact ih (v1 + 1) (mA (mB (mB (mB s 33 j28 (s.2.2.2 31 j28)) 34 j28 0) 35 j28 0) 36 j28 0) h43 hM44 f45 q hd kk
def d_Mo_newDay  (s : mS) : Option (mS) := (l_Mo_newDay_22 100000 0 (mI (mI (mI s 56 0) 55 ((s.1 55) + 1)) 30 0)).bind fun q21 => ((l_Mo_newDay_43 100000 0 q21).bind fun q47 => (some q47))
set_option maxHeartbeats 4000000 in
set_option maxRecDepth 100000 in
theorem k_Mo_newDay  (s : mS) (h0 : am_H) (hM : RM s h0) (q : mS) (hd : d_Mo_newDay  s = some q) : am_Me am_Pr none 0 0 0 0 84 [.ref 22] h0 (mQv q h0) := by
  refine am_enter (d := hd_Mo_newDay) rfl (by decide +kernel) (Nat.le_of_ble_eq_true rfl) ?_
  show am_S _ _ _ _ _ _ _ (0, [some (.ref 22), none], [], h0, 0, 0) _
  unfold d_Mo_newDay at hd
  refine am_steps ok_Mo_newDay 2 (x' := (2, [some (.ref 22), none], [.int 0, .ref 22], h0, 0, 0)) rfl (Nat.le_of_ble_eq_true rfl) (Nat.le_of_ble_eq_true rfl) ?_
  refine mr_put ok_Mo_newDay rfl hM (by decide) rfl (s' := (mI s 56 0)) (mfs_56 _ _) rfl (pc' := 5) rfl (Nat.le_of_ble_eq_true rfl) (Nat.le_of_ble_eq_true rfl) (fun h1 hM2 g4 => ?_)
  have f3 := mF.tr (mF.rf) g4
  refine am_steps ok_Mo_newDay 2 (x' := (7, [some (.ref 22), none], [.ref 22, .ref 22], h1, 0, 0)) rfl (Nat.le_of_ble_eq_true rfl) (Nat.le_of_ble_eq_true rfl) ?_
  refine mr_get ok_Mo_newDay rfl hM2 (v := .int (s.1 55)) rfl (pc' := 10) rfl (Nat.le_of_ble_eq_true rfl) (Nat.le_of_ble_eq_true rfl) ?_
  refine am_steps ok_Mo_newDay 2 (x' := (12, [some (.ref 22), none], [.int ((s.1 55) + 1), .ref 22], h1, 0, 0)) rfl (Nat.le_of_ble_eq_true rfl) (Nat.le_of_ble_eq_true rfl) ?_
  refine mr_put ok_Mo_newDay rfl hM2 (by decide) rfl (s' := (mI (mI s 56 0) 55 ((s.1 55) + 1))) (mfs_55 _ _) rfl (pc' := 15) rfl (Nat.le_of_ble_eq_true rfl) (Nat.le_of_ble_eq_true rfl) (fun h5 hM6 g8 => ?_)
  have f7 := mF.tr f3 g8
  refine am_steps ok_Mo_newDay 2 (x' := (17, [some (.ref 22), none], [.int 0, .ref 22], h5, 0, 0)) rfl (Nat.le_of_ble_eq_true rfl) (Nat.le_of_ble_eq_true rfl) ?_
  refine mr_put ok_Mo_newDay rfl hM6 (by decide) rfl (s' := (mI (mI (mI s 56 0) 55 ((s.1 55) + 1)) 30 0)) (mfs_30 _ _) rfl (pc' := 20) rfl (Nat.le_of_ble_eq_true rfl) (Nat.le_of_ble_eq_true rfl) (fun h9 hM10 g12 => ?_)
  have f11 := mF.tr f7 g12
  refine am_steps ok_Mo_newDay 2 (x' := (22, [some (.ref 22), some (.int 0)], [], h9, 0, 0)) rfl (Nat.le_of_ble_eq_true rfl) (Nat.le_of_ble_eq_true rfl) ?_
  obtain ⟨q21, hq22, hd23⟩ := Option.bind_eq_some_iff.mp hd; clear hd; have hd := hd23; clear hd23
  refine L_Mo_newDay_22 h0 100000 0 (mI (mI (mI s 56 0) 55 ((s.1 55) + 1)) 30 0) h9 hM10 f11 q21 hq22 (fun h24 hM25 f26 => ?_)
  show am_S _ _ _ _ _ _ _ (41, [some (.ref 22), none], [], h24, 0, 0) _
  refine am_steps ok_Mo_newDay 2 (x' := (43, [some (.ref 22), some (.int 0)], [], h24, 0, 0)) rfl (Nat.le_of_ble_eq_true rfl) (Nat.le_of_ble_eq_true rfl) ?_
  obtain ⟨q47, hq48, hd49⟩ := Option.bind_eq_some_iff.mp hd; clear hd; have hd := hd49; clear hd49
  refine L_Mo_newDay_43 h0 100000 0 q21 h24 hM25 f26 q47 hq48 (fun h50 hM51 f52 => ?_)
  show am_S _ _ _ _ _ _ _ (89, [some (.ref 22), none], [], h50, 0, 0) _
  cases hd; exact am_ret ok_Mo_newDay rfl (Nat.le_of_ble_eq_true rfl) (Nat.le_of_ble_eq_true rfl) ⟨rfl, hM51, f52⟩
def l_Mo_snapshot_28 : Nat → Int32 → Int32 → mS → Option (Int32)
  | 0, _, _, _ => none
  | fu + 1, v1, v2, s => if (16384 : Int32) ≤ v2 then (some v1) else ((am_ix v2 16384).bind fun j2 => ((if ((lg_cmp (s.2.2.2 31 j2) 0) : Int32) = 0 then (some 0) else (some 12)).bind fun (u5 : Int32) => ((if ((lg_cmp (s.2.2.2 32 j2) 0) : Int32) = 0 then (some 0) else (some 12)).bind fun (u9 : Int32) => (l_Mo_snapshot_28 fu (v1 + (u5 + u9)) (v2 + 1) s))))
set_option maxHeartbeats 4000000 in
set_option maxRecDepth 100000 in
theorem L_Mo_snapshot_28 {Q : Option Value → am_H → Prop} (s : mS) (h : am_H) (hM : RM s h) : ∀ (fu : Nat) (v1 : Int32) (v2 : Int32) (q : Int32), l_Mo_snapshot_28 fu v1 v2 s = some q → am_S am_Pr none 3 60 0 0 89 (79, [some (.ref 22), some (.int q), none], [], h, 0, 0) Q → am_S am_Pr none 3 60 0 0 89 (28, [some (.ref 22), some (.int v1), some (.int v2)], [], h, 0, 0) Q := by
  intro fu
  induction fu with
  | zero => intro v1 v2 q hd; cases hd
  | succ fu ih =>
    intro v1 v2 q hd kk
    unfold l_Mo_snapshot_28 at hd
    refine am_steps ok_Mo_snapshot 3 (x' := (if (16384 : Int32) ≤ v2 then 79 else 35, [some (.ref 22), some (.int v1), some (.int v2)], [], h, 0, 0)) rfl (Nat.le_of_ble_eq_true rfl) (Nat.le_of_ble_eq_true rfl) ?_
    refine am_if (fun hc1 => ?_) (fun hc1 => ?_)
    · rw [if_pos hc1] at hd
      refine am_drop 2 ?_
      cases hd; exact kk
    · rw [if_neg hc1] at hd
      refine am_steps ok_Mo_snapshot 2 (x' := (37, [some (.ref 22), some (.int v1), some (.int v2)], [.ref 22, .int v1], h, 0, 0)) rfl (Nat.le_of_ble_eq_true rfl) (Nat.le_of_ble_eq_true rfl) ?_
      refine mr_get ok_Mo_snapshot rfl hM (v := .ref 31) rfl (pc' := 40) rfl (Nat.le_of_ble_eq_true rfl) (Nat.le_of_ble_eq_true rfl) ?_
      refine am_steps ok_Mo_snapshot 1 (x' := (41, [some (.ref 22), some (.int v1), some (.int v2)], [.int v2, .ref 31, .int v1], h, 0, 0)) rfl (Nat.le_of_ble_eq_true rfl) (Nat.le_of_ble_eq_true rfl) ?_
      obtain ⟨j2, hx3, hd4⟩ := Option.bind_eq_some_iff.mp hd; clear hd; have hd := hd4; clear hd4
      refine mr_lald ok_Mo_snapshot rfl hM (N := 16384) (by decide) hx3 (pc' := 42) rfl (Nat.le_of_ble_eq_true rfl) (Nat.le_of_ble_eq_true rfl) ?_
      refine am_steps ok_Mo_snapshot 3 (x' := (if ((lg_cmp (s.2.2.2 31 j2) 0) : Int32) = 0 then 52 else 47, [some (.ref 22), some (.int v1), some (.int v2)], [.int v1], h, 0, 0)) rfl (Nat.le_of_ble_eq_true rfl) (Nat.le_of_ble_eq_true rfl) ?_
      obtain ⟨u5, hA7, hB8⟩ := Option.bind_eq_some_iff.mp hd; clear hd
      have K6 : am_S am_Pr none 3 60 0 0 89 (53, [some (.ref 22), none, some (.int v2)], [.int u5, .int v1], h, 0, 0) Q := by
        have hd := hB8
        refine am_steps ok_Mo_snapshot 1 (x' := (54, [some (.ref 22), none, some (.int v2)], [.ref 22, .int u5, .int v1], h, 0, 0)) rfl (Nat.le_of_ble_eq_true rfl) (Nat.le_of_ble_eq_true rfl) ?_
        refine mr_get ok_Mo_snapshot rfl hM (v := .ref 32) rfl (pc' := 57) rfl (Nat.le_of_ble_eq_true rfl) (Nat.le_of_ble_eq_true rfl) ?_
        refine am_steps ok_Mo_snapshot 1 (x' := (58, [some (.ref 22), none, some (.int v2)], [.int v2, .ref 32, .int u5, .int v1], h, 0, 0)) rfl (Nat.le_of_ble_eq_true rfl) (Nat.le_of_ble_eq_true rfl) ?_
        refine mr_lald ok_Mo_snapshot rfl hM (N := 16384) (by decide) hx3 (pc' := 59) rfl (Nat.le_of_ble_eq_true rfl) (Nat.le_of_ble_eq_true rfl) ?_
        refine am_steps ok_Mo_snapshot 3 (x' := (if ((lg_cmp (s.2.2.2 32 j2) 0) : Int32) = 0 then 69 else 64, [some (.ref 22), none, some (.int v2)], [.int u5, .int v1], h, 0, 0)) rfl (Nat.le_of_ble_eq_true rfl) (Nat.le_of_ble_eq_true rfl) ?_
        obtain ⟨u9, hA11, hB12⟩ := Option.bind_eq_some_iff.mp hd; clear hd
        have K10 : am_S am_Pr none 3 60 0 0 89 (70, [some (.ref 22), none, some (.int v2)], [.int u9, .int u5, .int v1], h, 0, 0) Q := by
          have hd := hB12
          refine am_steps ok_Mo_snapshot 5 (x' := (28, [some (.ref 22), some (.int (v1 + (u5 + u9))), some (.int (v2 + 1))], [], h, 0, 0)) rfl (Nat.le_of_ble_eq_true rfl) (Nat.le_of_ble_eq_true rfl) ?_
          exact ih (v1 + (u5 + u9)) (v2 + 1) q hd kk
        clear hB12; have hd := hA11; clear hA11
        refine am_if (fun hc13 => ?_) (fun hc13 => ?_)
        · rw [if_pos hc13] at hd
          refine am_steps ok_Mo_snapshot 1 (x' := (70, [some (.ref 22), none, some (.int v2)], [.int 0, .int u5, .int v1], h, 0, 0)) rfl (Nat.le_of_ble_eq_true rfl) (Nat.le_of_ble_eq_true rfl) ?_
          cases hd; exact K10 
        · rw [if_neg hc13] at hd
          refine am_steps ok_Mo_snapshot 2 (x' := (70, [some (.ref 22), none, some (.int v2)], [.int 12, .int u5, .int v1], h, 0, 0)) rfl (Nat.le_of_ble_eq_true rfl) (Nat.le_of_ble_eq_true rfl) ?_
          cases hd; exact K10 
      clear hB8; have hd := hA7; clear hA7
      refine am_if (fun hc14 => ?_) (fun hc14 => ?_)
      · rw [if_pos hc14] at hd
        refine am_steps ok_Mo_snapshot 1 (x' := (53, [some (.ref 22), some (.int v1), some (.int v2)], [.int 0, .int v1], h, 0, 0)) rfl (Nat.le_of_ble_eq_true rfl) (Nat.le_of_ble_eq_true rfl) ?_
        refine am_drop 1 ?_
        cases hd; exact K6 
      · rw [if_neg hc14] at hd
        refine am_steps ok_Mo_snapshot 2 (x' := (53, [some (.ref 22), some (.int v1), some (.int v2)], [.int 12, .int v1], h, 0, 0)) rfl (Nat.le_of_ble_eq_true rfl) (Nat.le_of_ble_eq_true rfl) ?_
        refine am_drop 1 ?_
        cases hd; exact K6 
def l_Mo_snapshot_81 : Nat → Int32 → Int32 → mS → Option (Int32 × mS)
  | 0, _, _, _ => none
  | fu + 1, v1, v2, s => if ((((v1 + 500) - 1) / 500) : Int32) < v2 then (some (1, (mI s 60 0))) else ((d_Mo_write  s).bind fun q23 => (if ¬ (q23.1 : Int32) = 0 then (l_Mo_snapshot_81 fu v1 (v2 + 1) q23.2) else (some (0, q23.2))))
set_option maxHeartbeats 4000000 in
set_option maxRecDepth 100000 in
theorem L_Mo_snapshot_81 (h0 : am_H) : ∀ (fu : Nat) (v1 : Int32) (v2 : Int32) (s : mS) (h : am_H), RM s h → mF h0 h → ∀ q : Int32 × mS, l_Mo_snapshot_81 fu v1 v2 s = some q → am_S am_Pr none 3 60 0 0 89 (81, [some (.ref 22), some (.int v1), some (.int v2)], [], h, 0, 0) (mQr (.int q.1) q.2 h0) := by
  intro fu
  induction fu with
  | zero => intro v1 v2 s h hM f q hd; cases hd
  | succ fu ih =>
    intro v1 v2 s h hM f q hd
    unfold l_Mo_snapshot_81 at hd
    refine am_steps ok_Mo_snapshot 7 (x' := (92, [some (.ref 22), some (.int v1), some (.int v2)], [.int 500, .int ((v1 + 500) - 1), .int v2], h, 0, 0)) rfl (Nat.le_of_ble_eq_true rfl) (Nat.le_of_ble_eq_true rfl) ?_
    refine ar_idiv ok_Mo_snapshot rfl (by decide +kernel) (w := (((v1 + 500) - 1) / 500)) rfl (pc' := 93) rfl (Nat.le_of_ble_eq_true rfl) (Nat.le_of_ble_eq_true rfl) ?_
    refine am_steps ok_Mo_snapshot 1 (x' := (if ((((v1 + 500) - 1) / 500) : Int32) < v2 then 111 else 96, [some (.ref 22), some (.int v1), some (.int v2)], [], h, 0, 0)) rfl (Nat.le_of_ble_eq_true rfl) (Nat.le_of_ble_eq_true rfl) ?_
    refine am_if (fun hc18 => ?_) (fun hc18 => ?_)
    · rw [if_pos hc18] at hd
      refine am_steps ok_Mo_snapshot 2 (x' := (113, [some (.ref 22), some (.int v1), some (.int v2)], [.int 0, .ref 22], h, 0, 0)) rfl (Nat.le_of_ble_eq_true rfl) (Nat.le_of_ble_eq_true rfl) ?_
      refine mr_put ok_Mo_snapshot rfl hM (by decide) rfl (s' := (mI s 60 0)) (mfs_60 _ _) rfl (pc' := 116) rfl (Nat.le_of_ble_eq_true rfl) (Nat.le_of_ble_eq_true rfl) (fun h19 hM20 g22 => ?_)
      have f21 := mF.tr f g22
      refine am_steps ok_Mo_snapshot 1 (x' := (117, [some (.ref 22), some (.int v1), some (.int v2)], [.int 1], h19, 0, 0)) rfl (Nat.le_of_ble_eq_true rfl) (Nat.le_of_ble_eq_true rfl) ?_
      cases hd; exact am_ret ok_Mo_snapshot rfl (Nat.le_of_ble_eq_true rfl) (Nat.le_of_ble_eq_true rfl) ⟨rfl, hM20, f21⟩
    · rw [if_neg hc18] at hd
      refine am_steps ok_Mo_snapshot 1 (x' := (97, [some (.ref 22), some (.int v1), some (.int v2)], [.ref 22], h, 0, 0)) rfl (Nat.le_of_ble_eq_true rfl) (Nat.le_of_ble_eq_true rfl) ?_
      obtain ⟨q23, hq24, hd25⟩ := Option.bind_eq_some_iff.mp hd; clear hd; have hd := hd25; clear hd25
      refine ar_cv ok_Mo_snapshot hk_Mo_write rfl rfl (As := []) (ad := 22) (rest := []) rfl rfl hM.1 (Nat.le_of_ble_eq_true rfl) (k_Mo_write  s h hM q23 hq24) (Nat.le_of_ble_eq_true rfl) (Nat.le_of_ble_eq_true rfl) (Nat.le_of_ble_eq_true rfl) (Nat.le_of_ble_eq_true rfl) (pc' := 100) rfl (fun r26 h28 z27 => ?_)
      obtain ⟨rfl, hM29, g31⟩ := z27
      have f30 := mF.tr f g31
      show am_S _ _ _ _ _ _ _ (100, [some (.ref 22), some (.int v1), some (.int v2)], [.int q23.1], h28, 0, 0) _
      refine am_steps ok_Mo_snapshot 1 (x' := (if ¬ (q23.1 : Int32) = 0 then 105 else 103, [some (.ref 22), some (.int v1), some (.int v2)], [], h28, 0, 0)) rfl (Nat.le_of_ble_eq_true rfl) (Nat.le_of_ble_eq_true rfl) ?_
      refine am_if (fun hc32 => ?_) (fun hc32 => ?_)
      · rw [if_pos hc32] at hd
        refine am_steps ok_Mo_snapshot 2 (x' := (81, [some (.ref 22), some (.int v1), some (.int (v2 + 1))], [], h28, 0, 0)) rfl (Nat.le_of_ble_eq_true rfl) (Nat.le_of_ble_eq_true rfl) ?_
        exact ih v1 (v2 + 1) q23.2 h28 hM29 f30 q hd
      · rw [if_neg hc32] at hd
        refine am_steps ok_Mo_snapshot 1 (x' := (104, [some (.ref 22), some (.int v1), some (.int v2)], [.int 0], h28, 0, 0)) rfl (Nat.le_of_ble_eq_true rfl) (Nat.le_of_ble_eq_true rfl) ?_
        cases hd; exact am_ret ok_Mo_snapshot rfl (Nat.le_of_ble_eq_true rfl) (Nat.le_of_ble_eq_true rfl) ⟨rfl, hM29, f30⟩
def d_Mo_snapshot  (s : mS) : Option (Int32 × mS) := (l_Mo_snapshot_28 100000 (((20 + (4 * (s.1 10))) + (14 * (s.1 15))) + (12 * (s.1 25))) 0 s).bind fun q15 => (l_Mo_snapshot_81 100000 q15 0 s)
set_option maxHeartbeats 4000000 in
set_option maxRecDepth 100000 in
theorem k_Mo_snapshot  (s : mS) (h0 : am_H) (hM : RM s h0) (q : Int32 × mS) (hd : d_Mo_snapshot  s = some q) : am_Me am_Pr none 3 60 0 0 89 [.ref 22] h0 (mQr (.int q.1) q.2 h0) := by
  refine am_enter (d := hd_Mo_snapshot) rfl (by decide +kernel) (Nat.le_of_ble_eq_true rfl) ?_
  show am_S _ _ _ _ _ _ _ (0, [some (.ref 22), none, none], [], h0, 0, 0) _
  unfold d_Mo_snapshot at hd
  refine am_steps ok_Mo_snapshot 3 (x' := (4, [some (.ref 22), none, none], [.ref 22, .int 4, .int 20], h0, 0, 0)) rfl (Nat.le_of_ble_eq_true rfl) (Nat.le_of_ble_eq_true rfl) ?_
  refine mr_get ok_Mo_snapshot rfl hM (v := .int (s.1 10)) rfl (pc' := 7) rfl (Nat.le_of_ble_eq_true rfl) (Nat.le_of_ble_eq_true rfl) ?_
  refine am_steps ok_Mo_snapshot 4 (x' := (12, [some (.ref 22), none, none], [.ref 22, .int 14, .int (20 + (4 * (s.1 10)))], h0, 0, 0)) rfl (Nat.le_of_ble_eq_true rfl) (Nat.le_of_ble_eq_true rfl) ?_
  refine mr_get ok_Mo_snapshot rfl hM (v := .int (s.1 15)) rfl (pc' := 15) rfl (Nat.le_of_ble_eq_true rfl) (Nat.le_of_ble_eq_true rfl) ?_
  refine am_steps ok_Mo_snapshot 4 (x' := (20, [some (.ref 22), none, none], [.ref 22, .int 12, .int ((20 + (4 * (s.1 10))) + (14 * (s.1 15)))], h0, 0, 0)) rfl (Nat.le_of_ble_eq_true rfl) (Nat.le_of_ble_eq_true rfl) ?_
  refine mr_get ok_Mo_snapshot rfl hM (v := .int (s.1 25)) rfl (pc' := 23) rfl (Nat.le_of_ble_eq_true rfl) (Nat.le_of_ble_eq_true rfl) ?_
  refine am_steps ok_Mo_snapshot 5 (x' := (28, [some (.ref 22), some (.int (((20 + (4 * (s.1 10))) + (14 * (s.1 15))) + (12 * (s.1 25)))), some (.int 0)], [], h0, 0, 0)) rfl (Nat.le_of_ble_eq_true rfl) (Nat.le_of_ble_eq_true rfl) ?_
  obtain ⟨q15, hq16, hd17⟩ := Option.bind_eq_some_iff.mp hd; clear hd; have hd := hd17; clear hd17
  refine L_Mo_snapshot_28 s h0 hM 100000 (((20 + (4 * (s.1 10))) + (14 * (s.1 15))) + (12 * (s.1 25))) 0 q15 hq16 ?_
  show am_S _ _ _ _ _ _ _ (79, [some (.ref 22), some (.int q15), none], [], h0, 0, 0) _
  refine am_steps ok_Mo_snapshot 2 (x' := (81, [some (.ref 22), some (.int q15), some (.int 0)], [], h0, 0, 0)) rfl (Nat.le_of_ble_eq_true rfl) (Nat.le_of_ble_eq_true rfl) ?_
  exact L_Mo_snapshot_81 h0 100000 q15 0 s h0 hM (mF.rf) q hd
def l_Mo_tick_40 : Nat → Int32 → Int32 → Int32 → mS → Option (Int32 × mS)
  | 0, _, _, _, _ => none
  | fu + 1, v1, v2, v3, s => if (v1 : Int32) ≤ v3 then (some (v2, s)) else ((if ¬ (((s.1 56) + 1) : Int32) = 1000 then (some (v2, (mI s 56 ((s.1 56) + 1)))) else ((d_Mo_newDay  (mI s 56 ((s.1 56) + 1))).bind fun q72 => (some (1, q72)))).bind fun (u28 : Int32 × mS) => ((if ((u28.2.1 56) : Int32) < 150 then (some u28.2) else (if (900 : Int32) < (u28.2.1 56) then (some u28.2) else (if ¬ (((u28.2.1 56) - (u28.2.1 56) / 50 * 50) : Int32) = 0 then (some u28.2) else ((d_Mo_resolve  u28.2).bind fun q62 => (some q62))))).bind fun (u35 : mS) => ((if ¬ ((u35.1 56) : Int32) = 900 then (some u35) else ((d_Mo_endDay  u35).bind fun q50 => (some q50))).bind fun (u42 : mS) => (l_Mo_tick_40 fu v1 u28.1 (v3 + 1) u42))))
set_option maxHeartbeats 4000000 in
set_option maxRecDepth 100000 in
theorem L_Mo_tick_40 {Q : Option Value → am_H → Prop} (h0 : am_H) : ∀ (fu : Nat) (v1 : Int32) (v2 : Int32) (v3 : Int32) (s : mS) (h : am_H), RM s h → mF h0 h → ∀ q : Int32 × mS, l_Mo_tick_40 fu v1 v2 v3 s = some q → (∀ h' : am_H, RM q.2 h' → mF h0 h' → am_S am_Pr none 6 153 0 0 85 (125, [some (.ref 22), some (.int v1), some (.int q.1), none], [], h', 0, 0) Q) → am_S am_Pr none 6 153 0 0 85 (40, [some (.ref 22), some (.int v1), some (.int v2), some (.int v3)], [], h, 0, 0) Q := by
  intro fu
  induction fu with
  | zero => intro v1 v2 v3 s h hM f q hd; cases hd
  | succ fu ih =>
    intro v1 v2 v3 s h hM f q hd kk
    unfold l_Mo_tick_40 at hd
    refine am_steps ok_Mo_tick 3 (x' := (if (v1 : Int32) ≤ v3 then 125 else 45, [some (.ref 22), some (.int v1), some (.int v2), some (.int v3)], [], h, 0, 0)) rfl (Nat.le_of_ble_eq_true rfl) (Nat.le_of_ble_eq_true rfl) ?_
    refine am_if (fun hc23 => ?_) (fun hc23 => ?_)
    · rw [if_pos hc23] at hd
      refine am_drop 3 ?_
      cases hd; exact kk h hM f
    · rw [if_neg hc23] at hd
      refine am_steps ok_Mo_tick 2 (x' := (47, [some (.ref 22), some (.int v1), some (.int v2), some (.int v3)], [.ref 22, .ref 22], h, 0, 0)) rfl (Nat.le_of_ble_eq_true rfl) (Nat.le_of_ble_eq_true rfl) ?_
      refine mr_get ok_Mo_tick rfl hM (v := .int (s.1 56)) rfl (pc' := 50) rfl (Nat.le_of_ble_eq_true rfl) (Nat.le_of_ble_eq_true rfl) ?_
      refine am_steps ok_Mo_tick 2 (x' := (52, [some (.ref 22), some (.int v1), some (.int v2), some (.int v3)], [.int ((s.1 56) + 1), .ref 22], h, 0, 0)) rfl (Nat.le_of_ble_eq_true rfl) (Nat.le_of_ble_eq_true rfl) ?_
      refine mr_put ok_Mo_tick rfl hM (by decide) rfl (s' := (mI s 56 ((s.1 56) + 1))) (mfs_56 _ _) rfl (pc' := 55) rfl (Nat.le_of_ble_eq_true rfl) (Nat.le_of_ble_eq_true rfl) (fun h24 hM25 g27 => ?_)
      have f26 := mF.tr f g27
      refine am_steps ok_Mo_tick 1 (x' := (56, [some (.ref 22), some (.int v1), some (.int v2), some (.int v3)], [.ref 22], h24, 0, 0)) rfl (Nat.le_of_ble_eq_true rfl) (Nat.le_of_ble_eq_true rfl) ?_
      refine mr_get ok_Mo_tick rfl hM25 (v := .int ((s.1 56) + 1)) rfl (pc' := 59) rfl (Nat.le_of_ble_eq_true rfl) (Nat.le_of_ble_eq_true rfl) ?_
      refine am_steps ok_Mo_tick 2 (x' := (if ¬ (((s.1 56) + 1) : Int32) = 1000 then 71 else 65, [some (.ref 22), some (.int v1), some (.int v2), some (.int v3)], [], h24, 0, 0)) rfl (Nat.le_of_ble_eq_true rfl) (Nat.le_of_ble_eq_true rfl) ?_
      obtain ⟨u28, hA30, hB31⟩ := Option.bind_eq_some_iff.mp hd; clear hd
      have K29 : ∀ h' : am_H, RM u28.2 h' → mF h0 h' → am_S am_Pr none 6 153 0 0 85 (71, [some (.ref 22), some (.int v1), some (.int u28.1), some (.int v3)], [], h', 0, 0) Q := by
        have hd := hB31
        intro h32 hM33 f34
        refine am_steps ok_Mo_tick 1 (x' := (72, [some (.ref 22), some (.int v1), some (.int u28.1), some (.int v3)], [.ref 22], h32, 0, 0)) rfl (Nat.le_of_ble_eq_true rfl) (Nat.le_of_ble_eq_true rfl) ?_
        refine mr_get ok_Mo_tick rfl hM33 (v := .int (u28.2.1 56)) rfl (pc' := 75) rfl (Nat.le_of_ble_eq_true rfl) (Nat.le_of_ble_eq_true rfl) ?_
        refine am_steps ok_Mo_tick 2 (x' := (if ((u28.2.1 56) : Int32) < 150 then 105 else 81, [some (.ref 22), some (.int v1), some (.int u28.1), some (.int v3)], [], h32, 0, 0)) rfl (Nat.le_of_ble_eq_true rfl) (Nat.le_of_ble_eq_true rfl) ?_
        obtain ⟨u35, hA37, hB38⟩ := Option.bind_eq_some_iff.mp hd; clear hd
        have K36 : ∀ h' : am_H, RM u35 h' → mF h0 h' → am_S am_Pr none 6 153 0 0 85 (105, [some (.ref 22), some (.int v1), some (.int u28.1), some (.int v3)], [], h', 0, 0) Q := by
          have hd := hB38
          intro h39 hM40 f41
          refine am_steps ok_Mo_tick 1 (x' := (106, [some (.ref 22), some (.int v1), some (.int u28.1), some (.int v3)], [.ref 22], h39, 0, 0)) rfl (Nat.le_of_ble_eq_true rfl) (Nat.le_of_ble_eq_true rfl) ?_
          refine mr_get ok_Mo_tick rfl hM40 (v := .int (u35.1 56)) rfl (pc' := 109) rfl (Nat.le_of_ble_eq_true rfl) (Nat.le_of_ble_eq_true rfl) ?_
          refine am_steps ok_Mo_tick 2 (x' := (if ¬ ((u35.1 56) : Int32) = 900 then 119 else 115, [some (.ref 22), some (.int v1), some (.int u28.1), some (.int v3)], [], h39, 0, 0)) rfl (Nat.le_of_ble_eq_true rfl) (Nat.le_of_ble_eq_true rfl) ?_
          obtain ⟨u42, hA44, hB45⟩ := Option.bind_eq_some_iff.mp hd; clear hd
          have K43 : ∀ h' : am_H, RM u42 h' → mF h0 h' → am_S am_Pr none 6 153 0 0 85 (119, [some (.ref 22), some (.int v1), some (.int u28.1), some (.int v3)], [], h', 0, 0) Q := by
            have hd := hB45
            intro h46 hM47 f48
            refine am_steps ok_Mo_tick 2 (x' := (40, [some (.ref 22), some (.int v1), some (.int u28.1), some (.int (v3 + 1))], [], h46, 0, 0)) rfl (Nat.le_of_ble_eq_true rfl) (Nat.le_of_ble_eq_true rfl) ?_
            exact ih v1 u28.1 (v3 + 1) u42 h46 hM47 f48 q hd kk
          clear hB45; have hd := hA44; clear hA44
          refine am_if (fun hc49 => ?_) (fun hc49 => ?_)
          · rw [if_pos hc49] at hd
            cases hd; exact K43 h39 hM40 f41
          · rw [if_neg hc49] at hd
            refine am_steps ok_Mo_tick 1 (x' := (116, [some (.ref 22), some (.int v1), some (.int u28.1), some (.int v3)], [.ref 22], h39, 0, 0)) rfl (Nat.le_of_ble_eq_true rfl) (Nat.le_of_ble_eq_true rfl) ?_
            obtain ⟨q50, hq51, hd52⟩ := Option.bind_eq_some_iff.mp hd; clear hd; have hd := hd52; clear hd52
            refine ar_cv ok_Mo_tick hk_Mo_endDay rfl rfl (As := []) (ad := 22) (rest := []) rfl rfl hM40.1 (Nat.le_of_ble_eq_true rfl) (k_Mo_endDay  u35 h39 hM40 q50 hq51) (Nat.le_of_ble_eq_true rfl) (Nat.le_of_ble_eq_true rfl) (Nat.le_of_ble_eq_true rfl) (Nat.le_of_ble_eq_true rfl) (pc' := 119) rfl (fun r53 h55 z54 => ?_)
            obtain ⟨rfl, hM56, g58⟩ := z54
            have f57 := mF.tr f41 g58
            show am_S _ _ _ _ _ _ _ (119, [some (.ref 22), some (.int v1), some (.int u28.1), some (.int v3)], [], h55, 0, 0) _
            cases hd; exact K43 h55 hM56 f57
        clear hB38; have hd := hA37; clear hA37
        refine am_if (fun hc59 => ?_) (fun hc59 => ?_)
        · rw [if_pos hc59] at hd
          cases hd; exact K36 h32 hM33 f34
        · rw [if_neg hc59] at hd
          refine am_steps ok_Mo_tick 1 (x' := (82, [some (.ref 22), some (.int v1), some (.int u28.1), some (.int v3)], [.ref 22], h32, 0, 0)) rfl (Nat.le_of_ble_eq_true rfl) (Nat.le_of_ble_eq_true rfl) ?_
          refine mr_get ok_Mo_tick rfl hM33 (v := .int (u28.2.1 56)) rfl (pc' := 85) rfl (Nat.le_of_ble_eq_true rfl) (Nat.le_of_ble_eq_true rfl) ?_
          refine am_steps ok_Mo_tick 2 (x' := (if (900 : Int32) < (u28.2.1 56) then 105 else 91, [some (.ref 22), some (.int v1), some (.int u28.1), some (.int v3)], [], h32, 0, 0)) rfl (Nat.le_of_ble_eq_true rfl) (Nat.le_of_ble_eq_true rfl) ?_
          refine am_if (fun hc60 => ?_) (fun hc60 => ?_)
          · rw [if_pos hc60] at hd
            cases hd; exact K36 h32 hM33 f34
          · rw [if_neg hc60] at hd
            refine am_steps ok_Mo_tick 1 (x' := (92, [some (.ref 22), some (.int v1), some (.int u28.1), some (.int v3)], [.ref 22], h32, 0, 0)) rfl (Nat.le_of_ble_eq_true rfl) (Nat.le_of_ble_eq_true rfl) ?_
            refine mr_get ok_Mo_tick rfl hM33 (v := .int (u28.2.1 56)) rfl (pc' := 95) rfl (Nat.le_of_ble_eq_true rfl) (Nat.le_of_ble_eq_true rfl) ?_
            refine am_steps ok_Mo_tick 1 (x' := (97, [some (.ref 22), some (.int v1), some (.int u28.1), some (.int v3)], [.int 50, .int (u28.2.1 56)], h32, 0, 0)) rfl (Nat.le_of_ble_eq_true rfl) (Nat.le_of_ble_eq_true rfl) ?_
            refine ar_irem ok_Mo_tick rfl (by decide +kernel) (w := ((u28.2.1 56) - (u28.2.1 56) / 50 * 50)) rfl (pc' := 98) rfl (Nat.le_of_ble_eq_true rfl) (Nat.le_of_ble_eq_true rfl) ?_
            refine am_steps ok_Mo_tick 1 (x' := (if ¬ (((u28.2.1 56) - (u28.2.1 56) / 50 * 50) : Int32) = 0 then 105 else 101, [some (.ref 22), some (.int v1), some (.int u28.1), some (.int v3)], [], h32, 0, 0)) rfl (Nat.le_of_ble_eq_true rfl) (Nat.le_of_ble_eq_true rfl) ?_
            refine am_if (fun hc61 => ?_) (fun hc61 => ?_)
            · rw [if_pos hc61] at hd
              cases hd; exact K36 h32 hM33 f34
            · rw [if_neg hc61] at hd
              refine am_steps ok_Mo_tick 1 (x' := (102, [some (.ref 22), some (.int v1), some (.int u28.1), some (.int v3)], [.ref 22], h32, 0, 0)) rfl (Nat.le_of_ble_eq_true rfl) (Nat.le_of_ble_eq_true rfl) ?_
              obtain ⟨q62, hq63, hd64⟩ := Option.bind_eq_some_iff.mp hd; clear hd; have hd := hd64; clear hd64
              refine ar_cv ok_Mo_tick hk_Mo_resolve rfl rfl (As := []) (ad := 22) (rest := []) rfl rfl hM33.1 (Nat.le_of_ble_eq_true rfl) (k_Mo_resolve  u28.2 h32 hM33 q62 hq63) (Nat.le_of_ble_eq_true rfl) (Nat.le_of_ble_eq_true rfl) (Nat.le_of_ble_eq_true rfl) (Nat.le_of_ble_eq_true rfl) (pc' := 105) rfl (fun r65 h67 z66 => ?_)
              obtain ⟨rfl, hM68, g70⟩ := z66
              have f69 := mF.tr f34 g70
              show am_S _ _ _ _ _ _ _ (105, [some (.ref 22), some (.int v1), some (.int u28.1), some (.int v3)], [], h67, 0, 0) _
              cases hd; exact K36 h67 hM68 f69
      clear hB31; have hd := hA30; clear hA30
      refine am_if (fun hc71 => ?_) (fun hc71 => ?_)
      · rw [if_pos hc71] at hd
        cases hd; exact K29 h24 hM25 f26
      · rw [if_neg hc71] at hd
        refine am_steps ok_Mo_tick 1 (x' := (66, [some (.ref 22), some (.int v1), some (.int v2), some (.int v3)], [.ref 22], h24, 0, 0)) rfl (Nat.le_of_ble_eq_true rfl) (Nat.le_of_ble_eq_true rfl) ?_
        obtain ⟨q72, hq73, hd74⟩ := Option.bind_eq_some_iff.mp hd; clear hd; have hd := hd74; clear hd74
        refine ar_cv ok_Mo_tick hk_Mo_newDay rfl rfl (As := []) (ad := 22) (rest := []) rfl rfl hM25.1 (Nat.le_of_ble_eq_true rfl) (k_Mo_newDay  (mI s 56 ((s.1 56) + 1)) h24 hM25 q72 hq73) (Nat.le_of_ble_eq_true rfl) (Nat.le_of_ble_eq_true rfl) (Nat.le_of_ble_eq_true rfl) (Nat.le_of_ble_eq_true rfl) (pc' := 69) rfl (fun r75 h77 z76 => ?_)
        obtain ⟨rfl, hM78, g80⟩ := z76
        have f79 := mF.tr f26 g80
        show am_S _ _ _ _ _ _ _ (69, [some (.ref 22), some (.int v1), some (.int v2), some (.int v3)], [], h77, 0, 0) _
        refine am_steps ok_Mo_tick 2 (x' := (71, [some (.ref 22), some (.int v1), some (.int 1), some (.int v3)], [], h77, 0, 0)) rfl (Nat.le_of_ble_eq_true rfl) (Nat.le_of_ble_eq_true rfl) ?_
        cases hd; exact K29 h77 hM78 f79
def d_Mo_tick (a : Int32) (s : mS) : Option (Int32 × mS) := if ((s.1 57) : Int32) = 0 then (some (0, s)) else (if (a : Int32) < 1 then (some (0, s)) else (if (a : Int32) ≤ 1000 then ((d_Mo_silence  s).bind fun q4 => ((d_Mo_record 8 q4).bind fun q13 => (if ¬ (q13.1 : Int32) = 0 then ((l_Mo_tick_40 100000 a 0 0 q13.2).bind fun q81 => (if (q81.1 : Int32) = 0 then (some (1, q81.2)) else ((d_Mo_snapshot  q81.2).bind fun q88 => (if ¬ (q88.1 : Int32) = 0 then (some (1, q88.2)) else (some (2, q88.2)))))) else (some (2, q13.2))))) else (some (0, s))))
set_option maxHeartbeats 4000000 in
set_option maxRecDepth 100000 in
theorem k_Mo_tick (a : Int32) (s : mS) (h0 : am_H) (hM : RM s h0) (q : Int32 × mS) (hd : d_Mo_tick a s = some q) : am_Me am_Pr none 6 153 0 0 85 [.ref 22, .int a] h0 (mQr (.int q.1) q.2 h0) := by
  refine am_enter (d := hd_Mo_tick) rfl (by decide +kernel) (Nat.le_of_ble_eq_true rfl) ?_
  show am_S _ _ _ _ _ _ _ (0, [some (.ref 22), some (.int a), none, none], [], h0, 0, 0) _
  unfold d_Mo_tick at hd
  refine am_steps ok_Mo_tick 1 (x' := (1, [some (.ref 22), some (.int a), none, none], [.ref 22], h0, 0, 0)) rfl (Nat.le_of_ble_eq_true rfl) (Nat.le_of_ble_eq_true rfl) ?_
  refine mr_get ok_Mo_tick rfl hM (v := .int (s.1 57)) rfl (pc' := 4) rfl (Nat.le_of_ble_eq_true rfl) (Nat.le_of_ble_eq_true rfl) ?_
  refine am_steps ok_Mo_tick 1 (x' := (if ((s.1 57) : Int32) = 0 then 19 else 7, [some (.ref 22), some (.int a), none, none], [], h0, 0, 0)) rfl (Nat.le_of_ble_eq_true rfl) (Nat.le_of_ble_eq_true rfl) ?_
  refine am_if (fun hc1 => ?_) (fun hc1 => ?_)
  · rw [if_pos hc1] at hd
    refine am_steps ok_Mo_tick 1 (x' := (20, [some (.ref 22), some (.int a), none, none], [.int 0], h0, 0, 0)) rfl (Nat.le_of_ble_eq_true rfl) (Nat.le_of_ble_eq_true rfl) ?_
    cases hd; exact am_ret ok_Mo_tick rfl (Nat.le_of_ble_eq_true rfl) (Nat.le_of_ble_eq_true rfl) ⟨rfl, hM, (mF.rf)⟩
  · rw [if_neg hc1] at hd
    refine am_steps ok_Mo_tick 3 (x' := (if (a : Int32) < 1 then 19 else 12, [some (.ref 22), some (.int a), none, none], [], h0, 0, 0)) rfl (Nat.le_of_ble_eq_true rfl) (Nat.le_of_ble_eq_true rfl) ?_
    refine am_if (fun hc2 => ?_) (fun hc2 => ?_)
    · rw [if_pos hc2] at hd
      refine am_steps ok_Mo_tick 1 (x' := (20, [some (.ref 22), some (.int a), none, none], [.int 0], h0, 0, 0)) rfl (Nat.le_of_ble_eq_true rfl) (Nat.le_of_ble_eq_true rfl) ?_
      cases hd; exact am_ret ok_Mo_tick rfl (Nat.le_of_ble_eq_true rfl) (Nat.le_of_ble_eq_true rfl) ⟨rfl, hM, (mF.rf)⟩
    · rw [if_neg hc2] at hd
      refine am_steps ok_Mo_tick 3 (x' := (if (a : Int32) ≤ 1000 then 21 else 19, [some (.ref 22), some (.int a), none, none], [], h0, 0, 0)) rfl (Nat.le_of_ble_eq_true rfl) (Nat.le_of_ble_eq_true rfl) ?_
      refine am_if (fun hc3 => ?_) (fun hc3 => ?_)
      · rw [if_pos hc3] at hd
        refine am_steps ok_Mo_tick 1 (x' := (22, [some (.ref 22), some (.int a), none, none], [.ref 22], h0, 0, 0)) rfl (Nat.le_of_ble_eq_true rfl) (Nat.le_of_ble_eq_true rfl) ?_
        obtain ⟨q4, hq5, hd6⟩ := Option.bind_eq_some_iff.mp hd; clear hd; have hd := hd6; clear hd6
        refine ar_cv ok_Mo_tick hk_Mo_silence rfl rfl (As := []) (ad := 22) (rest := []) rfl rfl hM.1 (Nat.le_of_ble_eq_true rfl) (k_Mo_silence  s h0 hM q4 hq5) (Nat.le_of_ble_eq_true rfl) (Nat.le_of_ble_eq_true rfl) (Nat.le_of_ble_eq_true rfl) (Nat.le_of_ble_eq_true rfl) (pc' := 25) rfl (fun r7 h9 z8 => ?_)
        obtain ⟨rfl, hM10, g12⟩ := z8
        have f11 := mF.tr (mF.rf) g12
        show am_S _ _ _ _ _ _ _ (25, [some (.ref 22), some (.int a), none, none], [], h9, 0, 0) _
        refine am_steps ok_Mo_tick 2 (x' := (28, [some (.ref 22), some (.int a), none, none], [.int 8, .ref 22], h9, 0, 0)) rfl (Nat.le_of_ble_eq_true rfl) (Nat.le_of_ble_eq_true rfl) ?_
        obtain ⟨q13, hq14, hd15⟩ := Option.bind_eq_some_iff.mp hd; clear hd; have hd := hd15; clear hd15
        refine ar_cv ok_Mo_tick hk_Mo_record rfl rfl (As := [.int 8]) (ad := 22) (rest := []) rfl rfl hM10.1 (Nat.le_of_ble_eq_true rfl) (k_Mo_record 8 q4 h9 hM10 q13 hq14) (Nat.le_of_ble_eq_true rfl) (Nat.le_of_ble_eq_true rfl) (Nat.le_of_ble_eq_true rfl) (Nat.le_of_ble_eq_true rfl) (pc' := 31) rfl (fun r16 h18 z17 => ?_)
        obtain ⟨rfl, hM19, g21⟩ := z17
        have f20 := mF.tr f11 g21
        show am_S _ _ _ _ _ _ _ (31, [some (.ref 22), some (.int a), none, none], [.int q13.1], h18, 0, 0) _
        refine am_steps ok_Mo_tick 1 (x' := (if ¬ (q13.1 : Int32) = 0 then 36 else 34, [some (.ref 22), some (.int a), none, none], [], h18, 0, 0)) rfl (Nat.le_of_ble_eq_true rfl) (Nat.le_of_ble_eq_true rfl) ?_
        refine am_if (fun hc22 => ?_) (fun hc22 => ?_)
        · rw [if_pos hc22] at hd
          refine am_steps ok_Mo_tick 4 (x' := (40, [some (.ref 22), some (.int a), some (.int 0), some (.int 0)], [], h18, 0, 0)) rfl (Nat.le_of_ble_eq_true rfl) (Nat.le_of_ble_eq_true rfl) ?_
          obtain ⟨q81, hq82, hd83⟩ := Option.bind_eq_some_iff.mp hd; clear hd; have hd := hd83; clear hd83
          refine L_Mo_tick_40 h0 100000 a 0 0 q13.2 h18 hM19 f20 q81 hq82 (fun h84 hM85 f86 => ?_)
          show am_S _ _ _ _ _ _ _ (125, [some (.ref 22), some (.int a), some (.int q81.1), none], [], h84, 0, 0) _
          refine am_steps ok_Mo_tick 2 (x' := (if (q81.1 : Int32) = 0 then 140 else 129, [some (.ref 22), some (.int a), some (.int q81.1), none], [], h84, 0, 0)) rfl (Nat.le_of_ble_eq_true rfl) (Nat.le_of_ble_eq_true rfl) ?_
          refine am_if (fun hc87 => ?_) (fun hc87 => ?_)
          · rw [if_pos hc87] at hd
            refine am_steps ok_Mo_tick 1 (x' := (141, [some (.ref 22), some (.int a), some (.int q81.1), none], [.int 1], h84, 0, 0)) rfl (Nat.le_of_ble_eq_true rfl) (Nat.le_of_ble_eq_true rfl) ?_
            cases hd; exact am_ret ok_Mo_tick rfl (Nat.le_of_ble_eq_true rfl) (Nat.le_of_ble_eq_true rfl) ⟨rfl, hM85, f86⟩
          · rw [if_neg hc87] at hd
            refine am_steps ok_Mo_tick 1 (x' := (130, [some (.ref 22), some (.int a), some (.int q81.1), none], [.ref 22], h84, 0, 0)) rfl (Nat.le_of_ble_eq_true rfl) (Nat.le_of_ble_eq_true rfl) ?_
            obtain ⟨q88, hq89, hd90⟩ := Option.bind_eq_some_iff.mp hd; clear hd; have hd := hd90; clear hd90
            refine ar_cv ok_Mo_tick hk_Mo_snapshot rfl rfl (As := []) (ad := 22) (rest := []) rfl rfl hM85.1 (Nat.le_of_ble_eq_true rfl) (k_Mo_snapshot  q81.2 h84 hM85 q88 hq89) (Nat.le_of_ble_eq_true rfl) (Nat.le_of_ble_eq_true rfl) (Nat.le_of_ble_eq_true rfl) (Nat.le_of_ble_eq_true rfl) (pc' := 133) rfl (fun r91 h93 z92 => ?_)
            obtain ⟨rfl, hM94, g96⟩ := z92
            have f95 := mF.tr f86 g96
            show am_S _ _ _ _ _ _ _ (133, [some (.ref 22), some (.int a), some (.int q81.1), none], [.int q88.1], h93, 0, 0) _
            refine am_steps ok_Mo_tick 1 (x' := (if ¬ (q88.1 : Int32) = 0 then 140 else 136, [some (.ref 22), some (.int a), some (.int q81.1), none], [], h93, 0, 0)) rfl (Nat.le_of_ble_eq_true rfl) (Nat.le_of_ble_eq_true rfl) ?_
            refine am_if (fun hc97 => ?_) (fun hc97 => ?_)
            · rw [if_pos hc97] at hd
              refine am_steps ok_Mo_tick 1 (x' := (141, [some (.ref 22), some (.int a), some (.int q81.1), none], [.int 1], h93, 0, 0)) rfl (Nat.le_of_ble_eq_true rfl) (Nat.le_of_ble_eq_true rfl) ?_
              cases hd; exact am_ret ok_Mo_tick rfl (Nat.le_of_ble_eq_true rfl) (Nat.le_of_ble_eq_true rfl) ⟨rfl, hM94, f95⟩
            · rw [if_neg hc97] at hd
              refine am_steps ok_Mo_tick 2 (x' := (141, [some (.ref 22), some (.int a), some (.int q81.1), none], [.int 2], h93, 0, 0)) rfl (Nat.le_of_ble_eq_true rfl) (Nat.le_of_ble_eq_true rfl) ?_
              cases hd; exact am_ret ok_Mo_tick rfl (Nat.le_of_ble_eq_true rfl) (Nat.le_of_ble_eq_true rfl) ⟨rfl, hM94, f95⟩
        · rw [if_neg hc22] at hd
          refine am_steps ok_Mo_tick 1 (x' := (35, [some (.ref 22), some (.int a), none, none], [.int 2], h18, 0, 0)) rfl (Nat.le_of_ble_eq_true rfl) (Nat.le_of_ble_eq_true rfl) ?_
          cases hd; exact am_ret ok_Mo_tick rfl (Nat.le_of_ble_eq_true rfl) (Nat.le_of_ble_eq_true rfl) ⟨rfl, hM19, f20⟩
      · rw [if_neg hc3] at hd
        refine am_steps ok_Mo_tick 1 (x' := (20, [some (.ref 22), some (.int a), none, none], [.int 0], h0, 0, 0)) rfl (Nat.le_of_ble_eq_true rfl) (Nat.le_of_ble_eq_true rfl) ?_
        cases hd; exact am_ret ok_Mo_tick rfl (Nat.le_of_ble_eq_true rfl) (Nat.le_of_ble_eq_true rfl) ⟨rfl, hM, (mF.rf)⟩
def d_Mo_charge (a : Int32) (s : mS) : Option (Int32 × mS) := if (a : Int32) < 0 then (some (0, s)) else (if (a : Int32) ≤ 9999 then (some (1, (mI s 58 a))) else (some (0, s)))
set_option maxHeartbeats 4000000 in
set_option maxRecDepth 100000 in
theorem k_Mo_charge (a : Int32) (s : mS) (h0 : am_H) (hM : RM s h0) (q : Int32 × mS) (hd : d_Mo_charge a s = some q) : am_Me am_Pr none 0 0 0 0 90 [.ref 22, .int a] h0 (mQr (.int q.1) q.2 h0) := by
  refine am_enter (d := hd_Mo_charge) rfl (by decide +kernel) (Nat.le_of_ble_eq_true rfl) ?_
  show am_S _ _ _ _ _ _ _ (0, [some (.ref 22), some (.int a)], [], h0, 0, 0) _
  unfold d_Mo_charge at hd
  refine am_steps ok_Mo_charge 2 (x' := (if (a : Int32) < 0 then 11 else 4, [some (.ref 22), some (.int a)], [], h0, 0, 0)) rfl (Nat.le_of_ble_eq_true rfl) (Nat.le_of_ble_eq_true rfl) ?_
  refine am_if (fun hc1 => ?_) (fun hc1 => ?_)
  · rw [if_pos hc1] at hd
    refine am_steps ok_Mo_charge 1 (x' := (12, [some (.ref 22), some (.int a)], [.int 0], h0, 0, 0)) rfl (Nat.le_of_ble_eq_true rfl) (Nat.le_of_ble_eq_true rfl) ?_
    cases hd; exact am_ret ok_Mo_charge rfl (Nat.le_of_ble_eq_true rfl) (Nat.le_of_ble_eq_true rfl) ⟨rfl, hM, (mF.rf)⟩
  · rw [if_neg hc1] at hd
    refine am_steps ok_Mo_charge 3 (x' := (if (a : Int32) ≤ 9999 then 13 else 11, [some (.ref 22), some (.int a)], [], h0, 0, 0)) rfl (Nat.le_of_ble_eq_true rfl) (Nat.le_of_ble_eq_true rfl) ?_
    refine am_if (fun hc2 => ?_) (fun hc2 => ?_)
    · rw [if_pos hc2] at hd
      refine am_steps ok_Mo_charge 2 (x' := (15, [some (.ref 22), some (.int a)], [.int a, .ref 22], h0, 0, 0)) rfl (Nat.le_of_ble_eq_true rfl) (Nat.le_of_ble_eq_true rfl) ?_
      refine mr_put ok_Mo_charge rfl hM (by decide) rfl (s' := (mI s 58 a)) (mfs_58 _ _) rfl (pc' := 18) rfl (Nat.le_of_ble_eq_true rfl) (Nat.le_of_ble_eq_true rfl) (fun h3 hM4 g6 => ?_)
      have f5 := mF.tr (mF.rf) g6
      refine am_steps ok_Mo_charge 1 (x' := (19, [some (.ref 22), some (.int a)], [.int 1], h3, 0, 0)) rfl (Nat.le_of_ble_eq_true rfl) (Nat.le_of_ble_eq_true rfl) ?_
      cases hd; exact am_ret ok_Mo_charge rfl (Nat.le_of_ble_eq_true rfl) (Nat.le_of_ble_eq_true rfl) ⟨rfl, hM4, f5⟩
    · rw [if_neg hc2] at hd
      refine am_steps ok_Mo_charge 1 (x' := (12, [some (.ref 22), some (.int a)], [.int 0], h0, 0, 0)) rfl (Nat.le_of_ble_eq_true rfl) (Nat.le_of_ble_eq_true rfl) ?_
      cases hd; exact am_ret ok_Mo_charge rfl (Nat.le_of_ble_eq_true rfl) (Nat.le_of_ble_eq_true rfl) ⟨rfl, hM, (mF.rf)⟩
def d_Mo_start  (s : mS) : Option (Int32 × mS) := if ((s.1 57) : Int32) = 0 then ((d_Mo_write  s).bind fun q2 => (if ¬ (q2.1 : Int32) = 0 then (some (1, (mI q2.2 57 1))) else (some (2, q2.2)))) else (some (0, s))
set_option maxHeartbeats 4000000 in
set_option maxRecDepth 100000 in
theorem k_Mo_start  (s : mS) (h0 : am_H) (hM : RM s h0) (q : Int32 × mS) (hd : d_Mo_start  s = some q) : am_Me am_Pr none 3 60 0 0 91 [.ref 22] h0 (mQr (.int q.1) q.2 h0) := by
  refine am_enter (d := hd_Mo_start) rfl (by decide +kernel) (Nat.le_of_ble_eq_true rfl) ?_
  show am_S _ _ _ _ _ _ _ (0, [some (.ref 22)], [], h0, 0, 0) _
  unfold d_Mo_start at hd
  refine am_steps ok_Mo_start 1 (x' := (1, [some (.ref 22)], [.ref 22], h0, 0, 0)) rfl (Nat.le_of_ble_eq_true rfl) (Nat.le_of_ble_eq_true rfl) ?_
  refine mr_get ok_Mo_start rfl hM (v := .int (s.1 57)) rfl (pc' := 4) rfl (Nat.le_of_ble_eq_true rfl) (Nat.le_of_ble_eq_true rfl) ?_
  refine am_steps ok_Mo_start 1 (x' := (if ((s.1 57) : Int32) = 0 then 9 else 7, [some (.ref 22)], [], h0, 0, 0)) rfl (Nat.le_of_ble_eq_true rfl) (Nat.le_of_ble_eq_true rfl) ?_
  refine am_if (fun hc1 => ?_) (fun hc1 => ?_)
  · rw [if_pos hc1] at hd
    refine am_steps ok_Mo_start 1 (x' := (10, [some (.ref 22)], [.ref 22], h0, 0, 0)) rfl (Nat.le_of_ble_eq_true rfl) (Nat.le_of_ble_eq_true rfl) ?_
    obtain ⟨q2, hq3, hd4⟩ := Option.bind_eq_some_iff.mp hd; clear hd; have hd := hd4; clear hd4
    refine ar_cv ok_Mo_start hk_Mo_write rfl rfl (As := []) (ad := 22) (rest := []) rfl rfl hM.1 (Nat.le_of_ble_eq_true rfl) (k_Mo_write  s h0 hM q2 hq3) (Nat.le_of_ble_eq_true rfl) (Nat.le_of_ble_eq_true rfl) (Nat.le_of_ble_eq_true rfl) (Nat.le_of_ble_eq_true rfl) (pc' := 13) rfl (fun r5 h7 z6 => ?_)
    obtain ⟨rfl, hM8, g10⟩ := z6
    have f9 := mF.tr (mF.rf) g10
    show am_S _ _ _ _ _ _ _ (13, [some (.ref 22)], [.int q2.1], h7, 0, 0) _
    refine am_steps ok_Mo_start 1 (x' := (if ¬ (q2.1 : Int32) = 0 then 18 else 16, [some (.ref 22)], [], h7, 0, 0)) rfl (Nat.le_of_ble_eq_true rfl) (Nat.le_of_ble_eq_true rfl) ?_
    refine am_if (fun hc11 => ?_) (fun hc11 => ?_)
    · rw [if_pos hc11] at hd
      refine am_steps ok_Mo_start 2 (x' := (20, [some (.ref 22)], [.int 1, .ref 22], h7, 0, 0)) rfl (Nat.le_of_ble_eq_true rfl) (Nat.le_of_ble_eq_true rfl) ?_
      refine mr_put ok_Mo_start rfl hM8 (by decide) rfl (s' := (mI q2.2 57 1)) (mfs_57 _ _) rfl (pc' := 23) rfl (Nat.le_of_ble_eq_true rfl) (Nat.le_of_ble_eq_true rfl) (fun h12 hM13 g15 => ?_)
      have f14 := mF.tr f9 g15
      refine am_steps ok_Mo_start 1 (x' := (24, [some (.ref 22)], [.int 1], h12, 0, 0)) rfl (Nat.le_of_ble_eq_true rfl) (Nat.le_of_ble_eq_true rfl) ?_
      cases hd; exact am_ret ok_Mo_start rfl (Nat.le_of_ble_eq_true rfl) (Nat.le_of_ble_eq_true rfl) ⟨rfl, hM13, f14⟩
    · rw [if_neg hc11] at hd
      refine am_steps ok_Mo_start 1 (x' := (17, [some (.ref 22)], [.int 2], h7, 0, 0)) rfl (Nat.le_of_ble_eq_true rfl) (Nat.le_of_ble_eq_true rfl) ?_
      cases hd; exact am_ret ok_Mo_start rfl (Nat.le_of_ble_eq_true rfl) (Nat.le_of_ble_eq_true rfl) ⟨rfl, hM8, f9⟩
  · rw [if_neg hc1] at hd
    refine am_steps ok_Mo_start 1 (x' := (8, [some (.ref 22)], [.int 0], h0, 0, 0)) rfl (Nat.le_of_ble_eq_true rfl) (Nat.le_of_ble_eq_true rfl) ?_
    cases hd; exact am_ret ok_Mo_start rfl (Nat.le_of_ble_eq_true rfl) (Nat.le_of_ble_eq_true rfl) ⟨rfl, hM, (mF.rf)⟩
def d_Mo_position (a : Int32) (b : Int32) (s : mS) : Option (Int64) := if ((s.1 57) : Int32) = 0 then (some 0) else (if (a : Int32) < 0 then (some 0) else (if ((s.1 10) : Int32) ≤ a then (some 0) else (if (b : Int32) < 0 then (some 0) else (if (b : Int32) < (s.1 15) then ((am_ix ((64 * a) + b) 16384).bind fun j6 => (some (s.2.2.2 31 j6))) else (some 0)))))
set_option maxHeartbeats 4000000 in
set_option maxRecDepth 100000 in
theorem k_Mo_position (a : Int32) (b : Int32) (s : mS) (h0 : am_H) (hM : RM s h0) (q : Int64) (hd : d_Mo_position a b s = some q) : am_Me am_Pr none 0 0 0 0 92 [.ref 22, .int a, .int b] h0 (am_is (some (.long q)) h0) := by
  refine am_enter (d := hd_Mo_position) rfl (by decide +kernel) (Nat.le_of_ble_eq_true rfl) ?_
  show am_S _ _ _ _ _ _ _ (0, [some (.ref 22), some (.int a), some (.int b)], [], h0, 0, 0) _
  unfold d_Mo_position at hd
  refine am_steps ok_Mo_position 1 (x' := (1, [some (.ref 22), some (.int a), some (.int b)], [.ref 22], h0, 0, 0)) rfl (Nat.le_of_ble_eq_true rfl) (Nat.le_of_ble_eq_true rfl) ?_
  refine mr_get ok_Mo_position rfl hM (v := .int (s.1 57)) rfl (pc' := 4) rfl (Nat.le_of_ble_eq_true rfl) (Nat.le_of_ble_eq_true rfl) ?_
  refine am_steps ok_Mo_position 1 (x' := (if ((s.1 57) : Int32) = 0 then 31 else 7, [some (.ref 22), some (.int a), some (.int b)], [], h0, 0, 0)) rfl (Nat.le_of_ble_eq_true rfl) (Nat.le_of_ble_eq_true rfl) ?_
  refine am_if (fun hc1 => ?_) (fun hc1 => ?_)
  · rw [if_pos hc1] at hd
    refine am_steps ok_Mo_position 2 (x' := (46, [some (.ref 22), some (.int a), some (.int b)], [.long 0], h0, 0, 0)) rfl (Nat.le_of_ble_eq_true rfl) (Nat.le_of_ble_eq_true rfl) ?_
    cases hd; exact am_ret ok_Mo_position rfl (Nat.le_of_ble_eq_true rfl) (Nat.le_of_ble_eq_true rfl) ⟨rfl, rfl⟩
  · rw [if_neg hc1] at hd
    refine am_steps ok_Mo_position 2 (x' := (if (a : Int32) < 0 then 31 else 11, [some (.ref 22), some (.int a), some (.int b)], [], h0, 0, 0)) rfl (Nat.le_of_ble_eq_true rfl) (Nat.le_of_ble_eq_true rfl) ?_
    refine am_if (fun hc2 => ?_) (fun hc2 => ?_)
    · rw [if_pos hc2] at hd
      refine am_steps ok_Mo_position 2 (x' := (46, [some (.ref 22), some (.int a), some (.int b)], [.long 0], h0, 0, 0)) rfl (Nat.le_of_ble_eq_true rfl) (Nat.le_of_ble_eq_true rfl) ?_
      cases hd; exact am_ret ok_Mo_position rfl (Nat.le_of_ble_eq_true rfl) (Nat.le_of_ble_eq_true rfl) ⟨rfl, rfl⟩
    · rw [if_neg hc2] at hd
      refine am_steps ok_Mo_position 2 (x' := (13, [some (.ref 22), some (.int a), some (.int b)], [.ref 22, .int a], h0, 0, 0)) rfl (Nat.le_of_ble_eq_true rfl) (Nat.le_of_ble_eq_true rfl) ?_
      refine mr_get ok_Mo_position rfl hM (v := .int (s.1 10)) rfl (pc' := 16) rfl (Nat.le_of_ble_eq_true rfl) (Nat.le_of_ble_eq_true rfl) ?_
      refine am_steps ok_Mo_position 1 (x' := (if ((s.1 10) : Int32) ≤ a then 31 else 19, [some (.ref 22), some (.int a), some (.int b)], [], h0, 0, 0)) rfl (Nat.le_of_ble_eq_true rfl) (Nat.le_of_ble_eq_true rfl) ?_
      refine am_if (fun hc3 => ?_) (fun hc3 => ?_)
      · rw [if_pos hc3] at hd
        refine am_steps ok_Mo_position 2 (x' := (46, [some (.ref 22), some (.int a), some (.int b)], [.long 0], h0, 0, 0)) rfl (Nat.le_of_ble_eq_true rfl) (Nat.le_of_ble_eq_true rfl) ?_
        cases hd; exact am_ret ok_Mo_position rfl (Nat.le_of_ble_eq_true rfl) (Nat.le_of_ble_eq_true rfl) ⟨rfl, rfl⟩
      · rw [if_neg hc3] at hd
        refine am_steps ok_Mo_position 2 (x' := (if (b : Int32) < 0 then 31 else 23, [some (.ref 22), some (.int a), some (.int b)], [], h0, 0, 0)) rfl (Nat.le_of_ble_eq_true rfl) (Nat.le_of_ble_eq_true rfl) ?_
        refine am_if (fun hc4 => ?_) (fun hc4 => ?_)
        · rw [if_pos hc4] at hd
          refine am_steps ok_Mo_position 2 (x' := (46, [some (.ref 22), some (.int a), some (.int b)], [.long 0], h0, 0, 0)) rfl (Nat.le_of_ble_eq_true rfl) (Nat.le_of_ble_eq_true rfl) ?_
          cases hd; exact am_ret ok_Mo_position rfl (Nat.le_of_ble_eq_true rfl) (Nat.le_of_ble_eq_true rfl) ⟨rfl, rfl⟩
        · rw [if_neg hc4] at hd
          refine am_steps ok_Mo_position 2 (x' := (25, [some (.ref 22), some (.int a), some (.int b)], [.ref 22, .int b], h0, 0, 0)) rfl (Nat.le_of_ble_eq_true rfl) (Nat.le_of_ble_eq_true rfl) ?_
          refine mr_get ok_Mo_position rfl hM (v := .int (s.1 15)) rfl (pc' := 28) rfl (Nat.le_of_ble_eq_true rfl) (Nat.le_of_ble_eq_true rfl) ?_
          refine am_steps ok_Mo_position 1 (x' := (if (b : Int32) < (s.1 15) then 35 else 31, [some (.ref 22), some (.int a), some (.int b)], [], h0, 0, 0)) rfl (Nat.le_of_ble_eq_true rfl) (Nat.le_of_ble_eq_true rfl) ?_
          refine am_if (fun hc5 => ?_) (fun hc5 => ?_)
          · rw [if_pos hc5] at hd
            refine am_steps ok_Mo_position 1 (x' := (36, [some (.ref 22), some (.int a), some (.int b)], [.ref 22], h0, 0, 0)) rfl (Nat.le_of_ble_eq_true rfl) (Nat.le_of_ble_eq_true rfl) ?_
            refine mr_get ok_Mo_position rfl hM (v := .ref 31) rfl (pc' := 39) rfl (Nat.le_of_ble_eq_true rfl) (Nat.le_of_ble_eq_true rfl) ?_
            refine am_steps ok_Mo_position 5 (x' := (45, [some (.ref 22), some (.int a), some (.int b)], [.int ((64 * a) + b), .ref 31], h0, 0, 0)) rfl (Nat.le_of_ble_eq_true rfl) (Nat.le_of_ble_eq_true rfl) ?_
            obtain ⟨j6, hx7, hd8⟩ := Option.bind_eq_some_iff.mp hd; clear hd; have hd := hd8; clear hd8
            refine mr_lald ok_Mo_position rfl hM (N := 16384) (by decide) hx7 (pc' := 46) rfl (Nat.le_of_ble_eq_true rfl) (Nat.le_of_ble_eq_true rfl) ?_
            cases hd; exact am_ret ok_Mo_position rfl (Nat.le_of_ble_eq_true rfl) (Nat.le_of_ble_eq_true rfl) ⟨rfl, rfl⟩
          · rw [if_neg hc5] at hd
            refine am_steps ok_Mo_position 2 (x' := (46, [some (.ref 22), some (.int a), some (.int b)], [.long 0], h0, 0, 0)) rfl (Nat.le_of_ble_eq_true rfl) (Nat.le_of_ble_eq_true rfl) ?_
            cases hd; exact am_ret ok_Mo_position rfl (Nat.le_of_ble_eq_true rfl) (Nat.le_of_ble_eq_true rfl) ⟨rfl, rfl⟩
def l_Mo_waiting_4 : Nat → Int32 → Int32 → Int32 → mS → Option (Int32)
  | 0, _, _, _, _ => none
  | fu + 1, v1, v2, v3, s => if ((s.1 31) : Int32) ≤ v3 then (some v2) else ((am_ix v3 250).bind fun j2 => ((if ¬ ((s.2.2.1 48 j2) : Int32) = v1 then (some 0) else (some 1)).bind fun (u5 : Int32) => (l_Mo_waiting_4 fu v1 (v2 + u5) (v3 + 1) s)))
set_option maxHeartbeats 4000000 in
set_option maxRecDepth 100000 in
theorem L_Mo_waiting_4 {Q : Option Value → am_H → Prop} (s : mS) (h : am_H) (hM : RM s h) : ∀ (fu : Nat) (v1 : Int32) (v2 : Int32) (v3 : Int32) (q : Int32), l_Mo_waiting_4 fu v1 v2 v3 s = some q → am_S am_Pr none 0 0 0 0 93 (36, [some (.ref 22), some (.int v1), some (.int q), none], [], h, 0, 0) Q → am_S am_Pr none 0 0 0 0 93 (4, [some (.ref 22), some (.int v1), some (.int v2), some (.int v3)], [], h, 0, 0) Q := by
  intro fu
  induction fu with
  | zero => intro v1 v2 v3 q hd; cases hd
  | succ fu ih =>
    intro v1 v2 v3 q hd kk
    unfold l_Mo_waiting_4 at hd
    refine am_steps ok_Mo_waiting 2 (x' := (6, [some (.ref 22), some (.int v1), some (.int v2), some (.int v3)], [.ref 22, .int v3], h, 0, 0)) rfl (Nat.le_of_ble_eq_true rfl) (Nat.le_of_ble_eq_true rfl) ?_
    refine mr_get ok_Mo_waiting rfl hM (v := .int (s.1 31)) rfl (pc' := 9) rfl (Nat.le_of_ble_eq_true rfl) (Nat.le_of_ble_eq_true rfl) ?_
    refine am_steps ok_Mo_waiting 1 (x' := (if ((s.1 31) : Int32) ≤ v3 then 36 else 12, [some (.ref 22), some (.int v1), some (.int v2), some (.int v3)], [], h, 0, 0)) rfl (Nat.le_of_ble_eq_true rfl) (Nat.le_of_ble_eq_true rfl) ?_
    refine am_if (fun hc1 => ?_) (fun hc1 => ?_)
    · rw [if_pos hc1] at hd
      refine am_drop 3 ?_
      cases hd; exact kk
    · rw [if_neg hc1] at hd
      refine am_steps ok_Mo_waiting 2 (x' := (14, [some (.ref 22), some (.int v1), some (.int v2), some (.int v3)], [.ref 22, .int v2], h, 0, 0)) rfl (Nat.le_of_ble_eq_true rfl) (Nat.le_of_ble_eq_true rfl) ?_
      refine mr_get ok_Mo_waiting rfl hM (v := .ref 48) rfl (pc' := 17) rfl (Nat.le_of_ble_eq_true rfl) (Nat.le_of_ble_eq_true rfl) ?_
      refine am_steps ok_Mo_waiting 1 (x' := (18, [some (.ref 22), some (.int v1), some (.int v2), some (.int v3)], [.int v3, .ref 48, .int v2], h, 0, 0)) rfl (Nat.le_of_ble_eq_true rfl) (Nat.le_of_ble_eq_true rfl) ?_
      obtain ⟨j2, hx3, hd4⟩ := Option.bind_eq_some_iff.mp hd; clear hd; have hd := hd4; clear hd4
      refine mr_bald ok_Mo_waiting rfl hM (N := 250) (by decide) (Or.inr rfl) hx3 (pc' := 19) rfl (Nat.le_of_ble_eq_true rfl) (Nat.le_of_ble_eq_true rfl) ?_
      refine am_steps ok_Mo_waiting 2 (x' := (if ¬ ((s.2.2.1 48 j2) : Int32) = v1 then 27 else 23, [some (.ref 22), some (.int v1), some (.int v2), some (.int v3)], [.int v2], h, 0, 0)) rfl (Nat.le_of_ble_eq_true rfl) (Nat.le_of_ble_eq_true rfl) ?_
      obtain ⟨u5, hA7, hB8⟩ := Option.bind_eq_some_iff.mp hd; clear hd
      have K6 : am_S am_Pr none 0 0 0 0 93 (28, [some (.ref 22), some (.int v1), none, some (.int v3)], [.int u5, .int v2], h, 0, 0) Q := by
        have hd := hB8
        refine am_steps ok_Mo_waiting 4 (x' := (4, [some (.ref 22), some (.int v1), some (.int (v2 + u5)), some (.int (v3 + 1))], [], h, 0, 0)) rfl (Nat.le_of_ble_eq_true rfl) (Nat.le_of_ble_eq_true rfl) ?_
        exact ih v1 (v2 + u5) (v3 + 1) q hd kk
      clear hB8; have hd := hA7; clear hA7
      refine am_if (fun hc9 => ?_) (fun hc9 => ?_)
      · rw [if_pos hc9] at hd
        refine am_steps ok_Mo_waiting 1 (x' := (28, [some (.ref 22), some (.int v1), some (.int v2), some (.int v3)], [.int 0, .int v2], h, 0, 0)) rfl (Nat.le_of_ble_eq_true rfl) (Nat.le_of_ble_eq_true rfl) ?_
        refine am_drop 2 ?_
        cases hd; exact K6 
      · rw [if_neg hc9] at hd
        refine am_steps ok_Mo_waiting 2 (x' := (28, [some (.ref 22), some (.int v1), some (.int v2), some (.int v3)], [.int 1, .int v2], h, 0, 0)) rfl (Nat.le_of_ble_eq_true rfl) (Nat.le_of_ble_eq_true rfl) ?_
        refine am_drop 2 ?_
        cases hd; exact K6 
def d_Mo_waiting (a : Int32) (s : mS) : Option (Int32) := (l_Mo_waiting_4 100000 a 0 0 s).bind fun q10 => (some q10)
set_option maxHeartbeats 4000000 in
set_option maxRecDepth 100000 in
theorem k_Mo_waiting (a : Int32) (s : mS) (h0 : am_H) (hM : RM s h0) (q : Int32) (hd : d_Mo_waiting a s = some q) : am_Me am_Pr none 0 0 0 0 93 [.ref 22, .int a] h0 (am_is (some (.int q)) h0) := by
  refine am_enter (d := hd_Mo_waiting) rfl (by decide +kernel) (Nat.le_of_ble_eq_true rfl) ?_
  show am_S _ _ _ _ _ _ _ (0, [some (.ref 22), some (.int a), none, none], [], h0, 0, 0) _
  unfold d_Mo_waiting at hd
  refine am_steps ok_Mo_waiting 4 (x' := (4, [some (.ref 22), some (.int a), some (.int 0), some (.int 0)], [], h0, 0, 0)) rfl (Nat.le_of_ble_eq_true rfl) (Nat.le_of_ble_eq_true rfl) ?_
  obtain ⟨q10, hq11, hd12⟩ := Option.bind_eq_some_iff.mp hd; clear hd; have hd := hd12; clear hd12
  refine L_Mo_waiting_4 s h0 hM 100000 a 0 0 q10 hq11 ?_
  show am_S _ _ _ _ _ _ _ (36, [some (.ref 22), some (.int a), some (.int q10), none], [], h0, 0, 0) _
  refine am_steps ok_Mo_waiting 1 (x' := (37, [some (.ref 22), some (.int a), some (.int q10), none], [.int q10], h0, 0, 0)) rfl (Nat.le_of_ble_eq_true rfl) (Nat.le_of_ble_eq_true rfl) ?_
  cases hd; exact am_ret ok_Mo_waiting rfl (Nat.le_of_ble_eq_true rfl) (Nat.le_of_ble_eq_true rfl) ⟨rfl, rfl⟩
