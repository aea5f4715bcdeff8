/-! Methods of the reference as functions of its state. -/
def l_Mo_statement_14 : Nat → Int32 → mS → Option (mS)
  | 0, _, _ => none
  | fu + 1, v1, s => if ((s.1 15) : Int32) ≤ v1 then (some s) else ((am_ix ((64 * (s.1 5)) + v1) 16384).bind fun j11 => ((if ¬ ((lg_cmp (s.2.2.2 33 j11) 0) : Int32) = 0 then ((am_ix v1 64).bind fun j22 => ((d_Mo_putName (s.2.2.2 27 j22) 3 s).bind fun q25 => ((d_Mo_put 32 q25).bind fun q34 => ((d_Mo_putNumber (q34.2.2.2 33 j11) q34).bind fun q43 => ((d_Mo_put 32 q43).bind fun q52 => ((d_Mo_putNumber (q52.2.2.2 34 j11) q52).bind fun q61 => ((d_Mo_put 32 q61).bind fun q70 => ((d_Mo_putNumber (q70.2.2.2 35 j11) q70).bind fun q79 => ((d_Mo_put 32 q79).bind fun q88 => ((d_Mo_putNumber (q88.2.2.2 31 j11) q88).bind fun q97 => ((d_Mo_put 32 q97).bind fun q106 => ((d_Mo_putNumber (Int32.toInt64 (q106.2.2.1 36 j11)) q106).bind fun q115 => ((d_Mo_put 10 q115).bind fun q124 => (some q124)))))))))))))) else (if ¬ ((s.2.2.1 36 j11) : Int32) = 0 then ((am_ix v1 64).bind fun j134 => ((d_Mo_putName (s.2.2.2 27 j134) 3 s).bind fun q137 => ((d_Mo_put 32 q137).bind fun q146 => ((d_Mo_putNumber (q146.2.2.2 33 j11) q146).bind fun q155 => ((d_Mo_put 32 q155).bind fun q164 => ((d_Mo_putNumber (q164.2.2.2 34 j11) q164).bind fun q173 => ((d_Mo_put 32 q173).bind fun q182 => ((d_Mo_putNumber (q182.2.2.2 35 j11) q182).bind fun q191 => ((d_Mo_put 32 q191).bind fun q200 => ((d_Mo_putNumber (q200.2.2.2 31 j11) q200).bind fun q209 => ((d_Mo_put 32 q209).bind fun q218 => ((d_Mo_putNumber (Int32.toInt64 (q218.2.2.1 36 j11)) q218).bind fun q227 => ((d_Mo_put 10 q227).bind fun q236 => (some q236)))))))))))))) else (some s))).bind fun (u14 : mS) => (l_Mo_statement_14 fu (v1 + 1) u14)))
set_option maxHeartbeats 4000000 in
set_option maxRecDepth 100000 in
theorem L_Mo_statement_14 {Q : Option Value → am_H → Prop} (h0 : am_H) : ∀ (fu : Nat) (v1 : Int32) (s : mS) (h : am_H), RM s h → mF h0 h → ∀ q : mS, l_Mo_statement_14 fu v1 s = some q → (∀ h' : am_H, RM q h' → mF h0 h' → am_S am_Pr none 2 49 0 0 80 (159, [some (.ref 22), none, none], [], h', 0, 0) Q) → am_S am_Pr none 2 49 0 0 80 (14, [some (.ref 22), some (.int v1), none], [], h, 0, 0) Q := by
  intro fu
  induction fu with
  | zero => intro v1 s h hM f q hd; cases hd
  | succ fu ih =>
    intro v1 s h hM f q hd kk
    unfold l_Mo_statement_14 at hd
    refine am_steps ok_Mo_statement 2 (x' := (16, [some (.ref 22), some (.int v1), none], [.ref 22, .int v1], h, 0, 0)) rfl (Nat.le_of_ble_eq_true rfl) (Nat.le_of_ble_eq_true rfl) ?_
    refine mr_get ok_Mo_statement rfl hM (v := .int (s.1 15)) rfl (pc' := 19) rfl (Nat.le_of_ble_eq_true rfl) (Nat.le_of_ble_eq_true rfl) ?_
    refine am_steps ok_Mo_statement 1 (x' := (if ((s.1 15) : Int32) ≤ v1 then 159 else 22, [some (.ref 22), some (.int v1), none], [], h, 0, 0)) rfl (Nat.le_of_ble_eq_true rfl) (Nat.le_of_ble_eq_true rfl) ?_
    refine am_if (fun hc10 => ?_) (fun hc10 => ?_)
    · rw [if_pos hc10] at hd
      refine am_drop 1 ?_
      cases hd; exact kk h hM f
    · rw [if_neg hc10] at hd
      refine am_steps ok_Mo_statement 2 (x' := (25, [some (.ref 22), some (.int v1), none], [.ref 22, .int 64], h, 0, 0)) rfl (Nat.le_of_ble_eq_true rfl) (Nat.le_of_ble_eq_true rfl) ?_
      refine mr_get ok_Mo_statement rfl hM (v := .int (s.1 5)) rfl (pc' := 28) rfl (Nat.le_of_ble_eq_true rfl) (Nat.le_of_ble_eq_true rfl) ?_
      refine am_steps ok_Mo_statement 5 (x' := (33, [some (.ref 22), some (.int v1), some (.int ((64 * (s.1 5)) + v1))], [.ref 22], h, 0, 0)) rfl (Nat.le_of_ble_eq_true rfl) (Nat.le_of_ble_eq_true rfl) ?_
      refine mr_get ok_Mo_statement rfl hM (v := .ref 33) rfl (pc' := 36) rfl (Nat.le_of_ble_eq_true rfl) (Nat.le_of_ble_eq_true rfl) ?_
      refine am_steps ok_Mo_statement 1 (x' := (37, [some (.ref 22), some (.int v1), some (.int ((64 * (s.1 5)) + v1))], [.int ((64 * (s.1 5)) + v1), .ref 33], h, 0, 0)) rfl (Nat.le_of_ble_eq_true rfl) (Nat.le_of_ble_eq_true rfl) ?_
      obtain ⟨j11, hx12, hd13⟩ := Option.bind_eq_some_iff.mp hd; clear hd; have hd := hd13; clear hd13
      refine mr_lald ok_Mo_statement rfl hM (N := 16384) (by decide) hx12 (pc' := 38) rfl (Nat.le_of_ble_eq_true rfl) (Nat.le_of_ble_eq_true rfl) ?_
      refine am_steps ok_Mo_statement 3 (x' := (if ¬ ((lg_cmp (s.2.2.2 33 j11) 0) : Int32) = 0 then 55 else 43, [some (.ref 22), some (.int v1), some (.int ((64 * (s.1 5)) + v1))], [], h, 0, 0)) rfl (Nat.le_of_ble_eq_true rfl) (Nat.le_of_ble_eq_true rfl) ?_
      obtain ⟨u14, hA16, hB17⟩ := Option.bind_eq_some_iff.mp hd; clear hd
      have K15 : ∀ h' : am_H, RM u14 h' → mF h0 h' → am_S am_Pr none 2 49 0 0 80 (153, [some (.ref 22), some (.int v1), none], [], h', 0, 0) Q := by
        have hd := hB17
        intro h18 hM19 f20
        refine am_steps ok_Mo_statement 2 (x' := (14, [some (.ref 22), some (.int (v1 + 1)), none], [], h18, 0, 0)) rfl (Nat.le_of_ble_eq_true rfl) (Nat.le_of_ble_eq_true rfl) ?_
        exact ih (v1 + 1) u14 h18 hM19 f20 q hd kk
      clear hB17; have hd := hA16; clear hA16
      refine am_if (fun hc21 => ?_) (fun hc21 => ?_)
      · rw [if_pos hc21] at hd
        refine am_steps ok_Mo_statement 2 (x' := (57, [some (.ref 22), some (.int v1), some (.int ((64 * (s.1 5)) + v1))], [.ref 22, .ref 22], h, 0, 0)) rfl (Nat.le_of_ble_eq_true rfl) (Nat.le_of_ble_eq_true rfl) ?_
        refine mr_get ok_Mo_statement rfl hM (v := .ref 27) rfl (pc' := 60) rfl (Nat.le_of_ble_eq_true rfl) (Nat.le_of_ble_eq_true rfl) ?_
        refine am_steps ok_Mo_statement 1 (x' := (61, [some (.ref 22), some (.int v1), some (.int ((64 * (s.1 5)) + v1))], [.int v1, .ref 27, .ref 22], h, 0, 0)) rfl (Nat.le_of_ble_eq_true rfl) (Nat.le_of_ble_eq_true rfl) ?_
        obtain ⟨j22, hx23, hd24⟩ := Option.bind_eq_some_iff.mp hd; clear hd; have hd := hd24; clear hd24
        refine mr_lald ok_Mo_statement rfl hM (N := 64) (by decide) hx23 (pc' := 62) rfl (Nat.le_of_ble_eq_true rfl) (Nat.le_of_ble_eq_true rfl) ?_
        refine am_steps ok_Mo_statement 1 (x' := (63, [some (.ref 22), some (.int v1), some (.int ((64 * (s.1 5)) + v1))], [.int 3, .long (s.2.2.2 27 j22), .ref 22], h, 0, 0)) rfl (Nat.le_of_ble_eq_true rfl) (Nat.le_of_ble_eq_true rfl) ?_
        obtain ⟨q25, hq26, hd27⟩ := Option.bind_eq_some_iff.mp hd; clear hd; have hd := hd27; clear hd27
        refine ar_cv ok_Mo_statement hk_Mo_putName rfl rfl (As := [.long (s.2.2.2 27 j22), .int 3]) (ad := 22) (rest := []) rfl rfl hM.1 (Nat.le_of_ble_eq_true rfl) (k_Mo_putName (s.2.2.2 27 j22) 3 s h hM q25 hq26) (Nat.le_of_ble_eq_true rfl) (Nat.le_of_ble_eq_true rfl) (Nat.le_of_ble_eq_true rfl) (Nat.le_of_ble_eq_true rfl) (pc' := 66) rfl (fun r28 h30 z29 => ?_)
        obtain ⟨rfl, hM31, g33⟩ := z29
        have f32 := mF.tr f g33
        show am_S _ _ _ _ _ _ _ (66, [some (.ref 22), some (.int v1), some (.int ((64 * (s.1 5)) + v1))], [], h30, 0, 0) _
        refine am_steps ok_Mo_statement 2 (x' := (69, [some (.ref 22), some (.int v1), some (.int ((64 * (s.1 5)) + v1))], [.int 32, .ref 22], h30, 0, 0)) rfl (Nat.le_of_ble_eq_true rfl) (Nat.le_of_ble_eq_true rfl) ?_
        obtain ⟨q34, hq35, hd36⟩ := Option.bind_eq_some_iff.mp hd; clear hd; have hd := hd36; clear hd36
        refine ar_cv ok_Mo_statement hk_Mo_put rfl rfl (As := [.int 32]) (ad := 22) (rest := []) rfl rfl hM31.1 (Nat.le_of_ble_eq_true rfl) (k_Mo_put 32 q25 h30 hM31 q34 hq35) (Nat.le_of_ble_eq_true rfl) (Nat.le_of_ble_eq_true rfl) (Nat.le_of_ble_eq_true rfl) (Nat.le_of_ble_eq_true rfl) (pc' := 72) rfl (fun r37 h39 z38 => ?_)
        obtain ⟨rfl, hM40, g42⟩ := z38
        have f41 := mF.tr f32 g42
        show am_S _ _ _ _ _ _ _ (72, [some (.ref 22), some (.int v1), some (.int ((64 * (s.1 5)) + v1))], [], h39, 0, 0) _
        refine am_steps ok_Mo_statement 2 (x' := (74, [some (.ref 22), some (.int v1), some (.int ((64 * (s.1 5)) + v1))], [.ref 22, .ref 22], h39, 0, 0)) rfl (Nat.le_of_ble_eq_true rfl) (Nat.le_of_ble_eq_true rfl) ?_
        refine mr_get ok_Mo_statement rfl hM40 (v := .ref 33) rfl (pc' := 77) rfl (Nat.le_of_ble_eq_true rfl) (Nat.le_of_ble_eq_true rfl) ?_
        refine am_steps ok_Mo_statement 1 (x' := (78, [some (.ref 22), some (.int v1), some (.int ((64 * (s.1 5)) + v1))], [.int ((64 * (s.1 5)) + v1), .ref 33, .ref 22], h39, 0, 0)) rfl (Nat.le_of_ble_eq_true rfl) (Nat.le_of_ble_eq_true rfl) ?_
        refine mr_lald ok_Mo_statement rfl hM40 (N := 16384) (by decide) hx12 (pc' := 79) rfl (Nat.le_of_ble_eq_true rfl) (Nat.le_of_ble_eq_true rfl) ?_
        obtain ⟨q43, hq44, hd45⟩ := Option.bind_eq_some_iff.mp hd; clear hd; have hd := hd45; clear hd45
        refine ar_cv ok_Mo_statement hk_Mo_putNumber rfl rfl (As := [.long (q34.2.2.2 33 j11)]) (ad := 22) (rest := []) rfl rfl hM40.1 (Nat.le_of_ble_eq_true rfl) (k_Mo_putNumber (q34.2.2.2 33 j11) q34 h39 hM40 q43 hq44) (Nat.le_of_ble_eq_true rfl) (Nat.le_of_ble_eq_true rfl) (Nat.le_of_ble_eq_true rfl) (Nat.le_of_ble_eq_true rfl) (pc' := 82) rfl (fun r46 h48 z47 => ?_)
        obtain ⟨rfl, hM49, g51⟩ := z47
        have f50 := mF.tr f41 g51
        show am_S _ _ _ _ _ _ _ (82, [some (.ref 22), some (.int v1), some (.int ((64 * (s.1 5)) + v1))], [], h48, 0, 0) _
        refine am_steps ok_Mo_statement 2 (x' := (85, [some (.ref 22), some (.int v1), some (.int ((64 * (s.1 5)) + v1))], [.int 32, .ref 22], h48, 0, 0)) rfl (Nat.le_of_ble_eq_true rfl) (Nat.le_of_ble_eq_true rfl) ?_
        obtain ⟨q52, hq53, hd54⟩ := Option.bind_eq_some_iff.mp hd; clear hd; have hd := hd54; clear hd54
        refine ar_cv ok_Mo_statement hk_Mo_put rfl rfl (As := [.int 32]) (ad := 22) (rest := []) rfl rfl hM49.1 (Nat.le_of_ble_eq_true rfl) (k_Mo_put 32 q43 h48 hM49 q52 hq53) (Nat.le_of_ble_eq_true rfl) (Nat.le_of_ble_eq_true rfl) (Nat.le_of_ble_eq_true rfl) (Nat.le_of_ble_eq_true rfl) (pc' := 88) rfl (fun r55 h57 z56 => ?_)
        obtain ⟨rfl, hM58, g60⟩ := z56
        have f59 := mF.tr f50 g60
        show am_S _ _ _ _ _ _ _ (88, [some (.ref 22), some (.int v1), some (.int ((64 * (s.1 5)) + v1))], [], h57, 0, 0) _
        refine am_steps ok_Mo_statement 2 (x' := (90, [some (.ref 22), some (.int v1), some (.int ((64 * (s.1 5)) + v1))], [.ref 22, .ref 22], h57, 0, 0)) rfl (Nat.le_of_ble_eq_true rfl) (Nat.le_of_ble_eq_true rfl) ?_
        refine mr_get ok_Mo_statement rfl hM58 (v := .ref 34) rfl (pc' := 93) rfl (Nat.le_of_ble_eq_true rfl) (Nat.le_of_ble_eq_true rfl) ?_
        refine am_steps ok_Mo_statement 1 (x' := (94, [some (.ref 22), some (.int v1), some (.int ((64 * (s.1 5)) + v1))], [.int ((64 * (s.1 5)) + v1), .ref 34, .ref 22], h57, 0, 0)) rfl (Nat.le_of_ble_eq_true rfl) (Nat.le_of_ble_eq_true rfl) ?_
        refine mr_lald ok_Mo_statement rfl hM58 (N := 16384) (by decide) hx12 (pc' := 95) rfl (Nat.le_of_ble_eq_true rfl) (Nat.le_of_ble_eq_true rfl) ?_
        obtain ⟨q61, hq62, hd63⟩ := Option.bind_eq_some_iff.mp hd; clear hd; have hd := hd63; clear hd63
        refine ar_cv ok_Mo_statement hk_Mo_putNumber rfl rfl (As := [.long (q52.2.2.2 34 j11)]) (ad := 22) (rest := []) rfl rfl hM58.1 (Nat.le_of_ble_eq_true rfl) (k_Mo_putNumber (q52.2.2.2 34 j11) q52 h57 hM58 q61 hq62) (Nat.le_of_ble_eq_true rfl) (Nat.le_of_ble_eq_true rfl) (Nat.le_of_ble_eq_true rfl) (Nat.le_of_ble_eq_true rfl) (pc' := 98) rfl (fun r64 h66 z65 => ?_)
        obtain ⟨rfl, hM67, g69⟩ := z65
        have f68 := mF.tr f59 g69
        show am_S _ _ _ _ _ _ _ (98, [some (.ref 22), some (.int v1), some (.int ((64 * (s.1 5)) + v1))], [], h66, 0, 0) _
        refine am_steps ok_Mo_statement 2 (x' := (101, [some (.ref 22), some (.int v1), some (.int ((64 * (s.1 5)) + v1))], [.int 32, .ref 22], h66, 0, 0)) rfl (Nat.le_of_ble_eq_true rfl) (Nat.le_of_ble_eq_true rfl) ?_
        obtain ⟨q70, hq71, hd72⟩ := Option.bind_eq_some_iff.mp hd; clear hd; have hd := hd72; clear hd72
        refine ar_cv ok_Mo_statement hk_Mo_put rfl rfl (As := [.int 32]) (ad := 22) (rest := []) rfl rfl hM67.1 (Nat.le_of_ble_eq_true rfl) (k_Mo_put 32 q61 h66 hM67 q70 hq71) (Nat.le_of_ble_eq_true rfl) (Nat.le_of_ble_eq_true rfl) (Nat.le_of_ble_eq_true rfl) (Nat.le_of_ble_eq_true rfl) (pc' := 104) rfl (fun r73 h75 z74 => ?_)
        obtain ⟨rfl, hM76, g78⟩ := z74
        have f77 := mF.tr f68 g78
        show am_S _ _ _ _ _ _ _ (104, [some (.ref 22), some (.int v1), some (.int ((64 * (s.1 5)) + v1))], [], h75, 0, 0) _
        refine am_steps ok_Mo_statement 2 (x' := (106, [some (.ref 22), some (.int v1), some (.int ((64 * (s.1 5)) + v1))], [.ref 22, .ref 22], h75, 0, 0)) rfl (Nat.le_of_ble_eq_true rfl) (Nat.le_of_ble_eq_true rfl) ?_
        refine mr_get ok_Mo_statement rfl hM76 (v := .ref 35) rfl (pc' := 109) rfl (Nat.le_of_ble_eq_true rfl) (Nat.le_of_ble_eq_true rfl) ?_
        refine am_steps ok_Mo_statement 1 (x' := (110, [some (.ref 22), some (.int v1), some (.int ((64 * (s.1 5)) + v1))], [.int ((64 * (s.1 5)) + v1), .ref 35, .ref 22], h75, 0, 0)) rfl (Nat.le_of_ble_eq_true rfl) (Nat.le_of_ble_eq_true rfl) ?_
        refine mr_lald ok_Mo_statement rfl hM76 (N := 16384) (by decide) hx12 (pc' := 111) rfl (Nat.le_of_ble_eq_true rfl) (Nat.le_of_ble_eq_true rfl) ?_
        obtain ⟨q79, hq80, hd81⟩ := Option.bind_eq_some_iff.mp hd; clear hd; have hd := hd81; clear hd81
        refine ar_cv ok_Mo_statement hk_Mo_putNumber rfl rfl (As := [.long (q70.2.2.2 35 j11)]) (ad := 22) (rest := []) rfl rfl hM76.1 (Nat.le_of_ble_eq_true rfl) (k_Mo_putNumber (q70.2.2.2 35 j11) q70 h75 hM76 q79 hq80) (Nat.le_of_ble_eq_true rfl) (Nat.le_of_ble_eq_true rfl) (Nat.le_of_ble_eq_true rfl) (Nat.le_of_ble_eq_true rfl) (pc' := 114) rfl (fun r82 h84 z83 => ?_)
        obtain ⟨rfl, hM85, g87⟩ := z83
        have f86 := mF.tr f77 g87
        show am_S _ _ _ _ _ _ _ (114, [some (.ref 22), some (.int v1), some (.int ((64 * (s.1 5)) + v1))], [], h84, 0, 0) _
        refine am_steps ok_Mo_statement 2 (x' := (117, [some (.ref 22), some (.int v1), some (.int ((64 * (s.1 5)) + v1))], [.int 32, .ref 22], h84, 0, 0)) rfl (Nat.le_of_ble_eq_true rfl) (Nat.le_of_ble_eq_true rfl) ?_
        obtain ⟨q88, hq89, hd90⟩ := Option.bind_eq_some_iff.mp hd; clear hd; have hd := hd90; clear hd90
        refine ar_cv ok_Mo_statement hk_Mo_put rfl rfl (As := [.int 32]) (ad := 22) (rest := []) rfl rfl hM85.1 (Nat.le_of_ble_eq_true rfl) (k_Mo_put 32 q79 h84 hM85 q88 hq89) (Nat.le_of_ble_eq_true rfl) (Nat.le_of_ble_eq_true rfl) (Nat.le_of_ble_eq_true rfl) (Nat.le_of_ble_eq_true rfl) (pc' := 120) rfl (fun r91 h93 z92 => ?_)
        obtain ⟨rfl, hM94, g96⟩ := z92
        have f95 := mF.tr f86 g96
        show am_S _ _ _ _ _ _ _ (120, [some (.ref 22), some (.int v1), some (.int ((64 * (s.1 5)) + v1))], [], h93, 0, 0) _
        refine am_steps ok_Mo_statement 2 (x' := (122, [some (.ref 22), some (.int v1), some (.int ((64 * (s.1 5)) + v1))], [.ref 22, .ref 22], h93, 0, 0)) rfl (Nat.le_of_ble_eq_true rfl) (Nat.le_of_ble_eq_true rfl) ?_
        refine mr_get ok_Mo_statement rfl hM94 (v := .ref 31) rfl (pc' := 125) rfl (Nat.le_of_ble_eq_true rfl) (Nat.le_of_ble_eq_true rfl) ?_
        refine am_steps ok_Mo_statement 1 (x' := (126, [some (.ref 22), some (.int v1), some (.int ((64 * (s.1 5)) + v1))], [.int ((64 * (s.1 5)) + v1), .ref 31, .ref 22], h93, 0, 0)) rfl (Nat.le_of_ble_eq_true rfl) (Nat.le_of_ble_eq_true rfl) ?_
        refine mr_lald ok_Mo_statement rfl hM94 (N := 16384) (by decide) hx12 (pc' := 127) rfl (Nat.le_of_ble_eq_true rfl) (Nat.le_of_ble_eq_true rfl) ?_
        obtain ⟨q97, hq98, hd99⟩ := Option.bind_eq_some_iff.mp hd; clear hd; have hd := hd99; clear hd99
        refine ar_cv ok_Mo_statement hk_Mo_putNumber rfl rfl (As := [.long (q88.2.2.2 31 j11)]) (ad := 22) (rest := []) rfl rfl hM94.1 (Nat.le_of_ble_eq_true rfl) (k_Mo_putNumber (q88.2.2.2 31 j11) q88 h93 hM94 q97 hq98) (Nat.le_of_ble_eq_true rfl) (Nat.le_of_ble_eq_true rfl) (Nat.le_of_ble_eq_true rfl) (Nat.le_of_ble_eq_true rfl) (pc' := 130) rfl (fun r100 h102 z101 => ?_)
        obtain ⟨rfl, hM103, g105⟩ := z101
        have f104 := mF.tr f95 g105
        show am_S _ _ _ _ _ _ _ (130, [some (.ref 22), some (.int v1), some (.int ((64 * (s.1 5)) + v1))], [], h102, 0, 0) _
        refine am_steps ok_Mo_statement 2 (x' := (133, [some (.ref 22), some (.int v1), some (.int ((64 * (s.1 5)) + v1))], [.int 32, .ref 22], h102, 0, 0)) rfl (Nat.le_of_ble_eq_true rfl) (Nat.le_of_ble_eq_true rfl) ?_
        obtain ⟨q106, hq107, hd108⟩ := Option.bind_eq_some_iff.mp hd; clear hd; have hd := hd108; clear hd108
        refine ar_cv ok_Mo_statement hk_Mo_put rfl rfl (As := [.int 32]) (ad := 22) (rest := []) rfl rfl hM103.1 (Nat.le_of_ble_eq_true rfl) (k_Mo_put 32 q97 h102 hM103 q106 hq107) (Nat.le_of_ble_eq_true rfl) (Nat.le_of_ble_eq_true rfl) (Nat.le_of_ble_eq_true rfl) (Nat.le_of_ble_eq_true rfl) (pc' := 136) rfl (fun r109 h111 z110 => ?_)
        obtain ⟨rfl, hM112, g114⟩ := z110
        have f113 := mF.tr f104 g114
        show am_S _ _ _ _ _ _ _ (136, [some (.ref 22), some (.int v1), some (.int ((64 * (s.1 5)) + v1))], [], h111, 0, 0) _
        refine am_steps ok_Mo_statement 2 (x' := (138, [some (.ref 22), some (.int v1), some (.int ((64 * (s.1 5)) + v1))], [.ref 22, .ref 22], h111, 0, 0)) rfl (Nat.le_of_ble_eq_true rfl) (Nat.le_of_ble_eq_true rfl) ?_
        refine mr_get ok_Mo_statement rfl hM112 (v := .ref 36) rfl (pc' := 141) rfl (Nat.le_of_ble_eq_true rfl) (Nat.le_of_ble_eq_true rfl) ?_
        refine am_steps ok_Mo_statement 1 (x' := (142, [some (.ref 22), some (.int v1), some (.int ((64 * (s.1 5)) + v1))], [.int ((64 * (s.1 5)) + v1), .ref 36, .ref 22], h111, 0, 0)) rfl (Nat.le_of_ble_eq_true rfl) (Nat.le_of_ble_eq_true rfl) ?_
        refine mr_iald ok_Mo_statement rfl hM112 (N := 16384) (by decide) hx12 (pc' := 143) rfl (Nat.le_of_ble_eq_true rfl) (Nat.le_of_ble_eq_true rfl) ?_
        refine am_steps ok_Mo_statement 1 (x' := (144, [some (.ref 22), some (.int v1), some (.int ((64 * (s.1 5)) + v1))], [.long (Int32.toInt64 (q106.2.2.1 36 j11)), .ref 22], h111, 0, 0)) rfl (Nat.le_of_ble_eq_true rfl) (Nat.le_of_ble_eq_true rfl) ?_
        obtain ⟨q115, hq116, hd117⟩ := Option.bind_eq_some_iff.mp hd; clear hd; have hd := hd117; clear hd117
        refine ar_cv ok_Mo_statement hk_Mo_putNumber rfl rfl (As := [.long (Int32.toInt64 (q106.2.2.1 36 j11))]) (ad := 22) (rest := []) rfl rfl hM112.1 (Nat.le_of_ble_eq_true rfl) (k_Mo_putNumber (Int32.toInt64 (q106.2.2.1 36 j11)) q106 h111 hM112 q115 hq116) (Nat.le_of_ble_eq_true rfl) (Nat.le_of_ble_eq_true rfl) (Nat.le_of_ble_eq_true rfl) (Nat.le_of_ble_eq_true rfl) (pc' := 147) rfl (fun r118 h120 z119 => ?_)
        obtain ⟨rfl, hM121, g123⟩ := z119
        have f122 := mF.tr f113 g123
        show am_S _ _ _ _ _ _ _ (147, [some (.ref 22), some (.int v1), some (.int ((64 * (s.1 5)) + v1))], [], h120, 0, 0) _
        refine am_steps ok_Mo_statement 2 (x' := (150, [some (.ref 22), some (.int v1), some (.int ((64 * (s.1 5)) + v1))], [.int 10, .ref 22], h120, 0, 0)) rfl (Nat.le_of_ble_eq_true rfl) (Nat.le_of_ble_eq_true rfl) ?_
        obtain ⟨q124, hq125, hd126⟩ := Option.bind_eq_some_iff.mp hd; clear hd; have hd := hd126; clear hd126
        refine ar_cv ok_Mo_statement hk_Mo_put rfl rfl (As := [.int 10]) (ad := 22) (rest := []) rfl rfl hM121.1 (Nat.le_of_ble_eq_true rfl) (k_Mo_put 10 q115 h120 hM121 q124 hq125) (Nat.le_of_ble_eq_true rfl) (Nat.le_of_ble_eq_true rfl) (Nat.le_of_ble_eq_true rfl) (Nat.le_of_ble_eq_true rfl) (pc' := 153) rfl (fun r127 h129 z128 => ?_)
        obtain ⟨rfl, hM130, g132⟩ := z128
        have f131 := mF.tr f122 g132
        show am_S _ _ _ _ _ _ _ (153, [some (.ref 22), some (.int v1), some (.int ((64 * (s.1 5)) + v1))], [], h129, 0, 0) _
        refine am_drop 2 ?_
        cases hd; exact K15 h129 hM130 f131
      · rw [if_neg hc21] at hd
        refine am_steps ok_Mo_statement 1 (x' := (44, [some (.ref 22), some (.int v1), some (.int ((64 * (s.1 5)) + v1))], [.ref 22], h, 0, 0)) rfl (Nat.le_of_ble_eq_true rfl) (Nat.le_of_ble_eq_true rfl) ?_
        refine mr_get ok_Mo_statement rfl hM (v := .ref 36) rfl (pc' := 47) rfl (Nat.le_of_ble_eq_true rfl) (Nat.le_of_ble_eq_true rfl) ?_
        refine am_steps ok_Mo_statement 1 (x' := (48, [some (.ref 22), some (.int v1), some (.int ((64 * (s.1 5)) + v1))], [.int ((64 * (s.1 5)) + v1), .ref 36], h, 0, 0)) rfl (Nat.le_of_ble_eq_true rfl) (Nat.le_of_ble_eq_true rfl) ?_
        refine mr_iald ok_Mo_statement rfl hM (N := 16384) (by decide) hx12 (pc' := 49) rfl (Nat.le_of_ble_eq_true rfl) (Nat.le_of_ble_eq_true rfl) ?_
        refine am_steps ok_Mo_statement 1 (x' := (if ¬ ((s.2.2.1 36 j11) : Int32) = 0 then 55 else 52, [some (.ref 22), some (.int v1), some (.int ((64 * (s.1 5)) + v1))], [], h, 0, 0)) rfl (Nat.le_of_ble_eq_true rfl) (Nat.le_of_ble_eq_true rfl) ?_
        refine am_if (fun hc133 => ?_) (fun hc133 => ?_)
        · rw [if_pos hc133] at hd
          refine am_steps ok_Mo_statement 2 (x' := (57, [some (.ref 22), some (.int v1), some (.int ((64 * (s.1 5)) + v1))], [.ref 22, .ref 22], h, 0, 0)) rfl (Nat.le_of_ble_eq_true rfl) (Nat.le_of_ble_eq_true rfl) ?_
          refine mr_get ok_Mo_statement rfl hM (v := .ref 27) rfl (pc' := 60) rfl (Nat.le_of_ble_eq_true rfl) (Nat.le_of_ble_eq_true rfl) ?_
          refine am_steps ok_Mo_statement 1 (x' := (61, [some (.ref 22), some (.int v1), some (.int ((64 * (s.1 5)) + v1))], [.int v1, .ref 27, .ref 22], h, 0, 0)) rfl (Nat.le_of_ble_eq_true rfl) (Nat.le_of_ble_eq_true rfl) ?_
          obtain ⟨j134, hx135, hd136⟩ := Option.bind_eq_some_iff.mp hd; clear hd; have hd := hd136; clear hd136
          refine mr_lald ok_Mo_statement rfl hM (N := 64) (by decide) hx135 (pc' := 62) rfl (Nat.le_of_ble_eq_true rfl) (Nat.le_of_ble_eq_true rfl) ?_
          refine am_steps ok_Mo_statement 1 (x' := (63, [some (.ref 22), some (.int v1), some (.int ((64 * (s.1 5)) + v1))], [.int 3, .long (s.2.2.2 27 j134), .ref 22], h, 0, 0)) rfl (Nat.le_of_ble_eq_true rfl) (Nat.le_of_ble_eq_true rfl) ?_
          obtain ⟨q137, hq138, hd139⟩ := Option.bind_eq_some_iff.mp hd; clear hd; have hd := hd139; clear hd139
          refine ar_cv ok_Mo_statement hk_Mo_putName rfl rfl (As := [.long (s.2.2.2 27 j134), .int 3]) (ad := 22) (rest := []) rfl rfl hM.1 (Nat.le_of_ble_eq_true rfl) (k_Mo_putName (s.2.2.2 27 j134) 3 s h hM q137 hq138) (Nat.le_of_ble_eq_true rfl) (Nat.le_of_ble_eq_true rfl) (Nat.le_of_ble_eq_true rfl) (Nat.le_of_ble_eq_true rfl) (pc' := 66) rfl (fun r140 h142 z141 => ?_)
          obtain ⟨rfl, hM143, g145⟩ := z141
          have f144 := mF.tr f g145
          show am_S _ _ _ _ _ _ _ (66, [some (.ref 22), some (.int v1), some (.int ((64 * (s.1 5)) + v1))], [], h142, 0, 0) _
          refine am_steps ok_Mo_statement 2 (x' := (69, [some (.ref 22), some (.int v1), some (.int ((64 * (s.1 5)) + v1))], [.int 32, .ref 22], h142, 0, 0)) rfl (Nat.le_of_ble_eq_true rfl) (Nat.le_of_ble_eq_true rfl) ?_
          obtain ⟨q146, hq147, hd148⟩ := Option.bind_eq_some_iff.mp hd; clear hd; have hd := hd148; clear hd148
          refine ar_cv ok_Mo_statement hk_Mo_put rfl rfl (As := [.int 32]) (ad := 22) (rest := []) rfl rfl hM143.1 (Nat.le_of_ble_eq_true rfl) (k_Mo_put 32 q137 h142 hM143 q146 hq147) (Nat.le_of_ble_eq_true rfl) (Nat.le_of_ble_eq_true rfl) (Nat.le_of_ble_eq_true rfl) (Nat.le_of_ble_eq_true rfl) (pc' := 72) rfl (fun r149 h151 z150 => ?_)
          obtain ⟨rfl, hM152, g154⟩ := z150
          have f153 := mF.tr f144 g154
          show am_S _ _ _ _ _ _ _ (72, [some (.ref 22), some (.int v1), some (.int ((64 * (s.1 5)) + v1))], [], h151, 0, 0) _
          refine am_steps ok_Mo_statement 2 (x' := (74, [some (.ref 22), some (.int v1), some (.int ((64 * (s.1 5)) + v1))], [.ref 22, .ref 22], h151, 0, 0)) rfl (Nat.le_of_ble_eq_true rfl) (Nat.le_of_ble_eq_true rfl) ?_
          refine mr_get ok_Mo_statement rfl hM152 (v := .ref 33) rfl (pc' := 77) rfl (Nat.le_of_ble_eq_true rfl) (Nat.le_of_ble_eq_true rfl) ?_
          refine am_steps ok_Mo_statement 1 (x' := (78, [some (.ref 22), some (.int v1), some (.int ((64 * (s.1 5)) + v1))], [.int ((64 * (s.1 5)) + v1), .ref 33, .ref 22], h151, 0, 0)) rfl (Nat.le_of_ble_eq_true rfl) (Nat.le_of_ble_eq_true rfl) ?_
          refine mr_lald ok_Mo_statement rfl hM152 (N := 16384) (by decide) hx12 (pc' := 79) rfl (Nat.le_of_ble_eq_true rfl) (Nat.le_of_ble_eq_true rfl) ?_
          obtain ⟨q155, hq156, hd157⟩ := Option.bind_eq_some_iff.mp hd; clear hd; have hd := hd157; clear hd157
          refine ar_cv ok_Mo_statement hk_Mo_putNumber rfl rfl (As := [.long (q146.2.2.2 33 j11)]) (ad := 22) (rest := []) rfl rfl hM152.1 (Nat.le_of_ble_eq_true rfl) (k_Mo_putNumber (q146.2.2.2 33 j11) q146 h151 hM152 q155 hq156) (Nat.le_of_ble_eq_true rfl) (Nat.le_of_ble_eq_true rfl) (Nat.le_of_ble_eq_true rfl) (Nat.le_of_ble_eq_true rfl) (pc' := 82) rfl (fun r158 h160 z159 => ?_)
          obtain ⟨rfl, hM161, g163⟩ := z159
          have f162 := mF.tr f153 g163
          show am_S _ _ _ _ _ _ _ (82, [some (.ref 22), some (.int v1), some (.int ((64 * (s.1 5)) + v1))], [], h160, 0, 0) _
          refine am_steps ok_Mo_statement 2 (x' := (85, [some (.ref 22), some (.int v1), some (.int ((64 * (s.1 5)) + v1))], [.int 32, .ref 22], h160, 0, 0)) rfl (Nat.le_of_ble_eq_true rfl) (Nat.le_of_ble_eq_true rfl) ?_
          obtain ⟨q164, hq165, hd166⟩ := Option.bind_eq_some_iff.mp hd; clear hd; have hd := hd166; clear hd166
          refine ar_cv ok_Mo_statement hk_Mo_put rfl rfl (As := [.int 32]) (ad := 22) (rest := []) rfl rfl hM161.1 (Nat.le_of_ble_eq_true rfl) (k_Mo_put 32 q155 h160 hM161 q164 hq165) (Nat.le_of_ble_eq_true rfl) (Nat.le_of_ble_eq_true rfl) (Nat.le_of_ble_eq_true rfl) (Nat.le_of_ble_eq_true rfl) (pc' := 88) rfl (fun r167 h169 z168 => ?_)
          obtain ⟨rfl, hM170, g172⟩ := z168
          have f171 := mF.tr f162 g172
          show am_S _ _ _ _ _ _ _ (88, [some (.ref 22), some (.int v1), some (.int ((64 * (s.1 5)) + v1))], [], h169, 0, 0) _
          refine am_steps ok_Mo_statement 2 (x' := (90, [some (.ref 22), some (.int v1), some (.int ((64 * (s.1 5)) + v1))], [.ref 22, .ref 22], h169, 0, 0)) rfl (Nat.le_of_ble_eq_true rfl) (Nat.le_of_ble_eq_true rfl) ?_
          refine mr_get ok_Mo_statement rfl hM170 (v := .ref 34) rfl (pc' := 93) rfl (Nat.le_of_ble_eq_true rfl) (Nat.le_of_ble_eq_true rfl) ?_
          refine am_steps ok_Mo_statement 1 (x' := (94, [some (.ref 22), some (.int v1), some (.int ((64 * (s.1 5)) + v1))], [.int ((64 * (s.1 5)) + v1), .ref 34, .ref 22], h169, 0, 0)) rfl (Nat.le_of_ble_eq_true rfl) (Nat.le_of_ble_eq_true rfl) ?_
          refine mr_lald ok_Mo_statement rfl hM170 (N := 16384) (by decide) hx12 (pc' := 95) rfl (Nat.le_of_ble_eq_true rfl) (Nat.le_of_ble_eq_true rfl) ?_
          obtain ⟨q173, hq174, hd175⟩ := Option.bind_eq_some_iff.mp hd; clear hd; have hd := hd175; clear hd175
          refine ar_cv ok_Mo_statement hk_Mo_putNumber rfl rfl (As := [.long (q164.2.2.2 34 j11)]) (ad := 22) (rest := []) rfl rfl hM170.1 (Nat.le_of_ble_eq_true rfl) (k_Mo_putNumber (q164.2.2.2 34 j11) q164 h169 hM170 q173 hq174) (Nat.le_of_ble_eq_true rfl) (Nat.le_of_ble_eq_true rfl) (Nat.le_of_ble_eq_true rfl) (Nat.le_of_ble_eq_true rfl) (pc' := 98) rfl (fun r176 h178 z177 => ?_)
          obtain ⟨rfl, hM179, g181⟩ := z177
          have f180 := mF.tr f171 g181
          show am_S _ _ _ _ _ _ _ (98, [some (.ref 22), some (.int v1), some (.int ((64 * (s.1 5)) + v1))], [], h178, 0, 0) _
          refine am_steps ok_Mo_statement 2 (x' := (101, [some (.ref 22), some (.int v1), some (.int ((64 * (s.1 5)) + v1))], [.int 32, .ref 22], h178, 0, 0)) rfl (Nat.le_of_ble_eq_true rfl) (Nat.le_of_ble_eq_true rfl) ?_
          obtain ⟨q182, hq183, hd184⟩ := Option.bind_eq_some_iff.mp hd; clear hd; have hd := hd184; clear hd184
          refine ar_cv ok_Mo_statement hk_Mo_put rfl rfl (As := [.int 32]) (ad := 22) (rest := []) rfl rfl hM179.1 (Nat.le_of_ble_eq_true rfl) (k_Mo_put 32 q173 h178 hM179 q182 hq183) (Nat.le_of_ble_eq_true rfl) (Nat.le_of_ble_eq_true rfl) (Nat.le_of_ble_eq_true rfl) (Nat.le_of_ble_eq_true rfl) (pc' := 104) rfl (fun r185 h187 z186 => ?_)
          obtain ⟨rfl, hM188, g190⟩ := z186
          have f189 := mF.tr f180 g190
          show am_S _ _ _ _ _ _ _ (104, [some (.ref 22), some (.int v1), some (.int ((64 * (s.1 5)) + v1))], [], h187, 0, 0) _
          refine am_steps ok_Mo_statement 2 (x' := (106, [some (.ref 22), some (.int v1), some (.int ((64 * (s.1 5)) + v1))], [.ref 22, .ref 22], h187, 0, 0)) rfl (Nat.le_of_ble_eq_true rfl) (Nat.le_of_ble_eq_true rfl) ?_
          refine mr_get ok_Mo_statement rfl hM188 (v := .ref 35) rfl (pc' := 109) rfl (Nat.le_of_ble_eq_true rfl) (Nat.le_of_ble_eq_true rfl) ?_
          refine am_steps ok_Mo_statement 1 (x' := (110, [some (.ref 22), some (.int v1), some (.int ((64 * (s.1 5)) + v1))], [.int ((64 * (s.1 5)) + v1), .ref 35, .ref 22], h187, 0, 0)) rfl (Nat.le_of_ble_eq_true rfl) (Nat.le_of_ble_eq_true rfl) ?_
          refine mr_lald ok_Mo_statement rfl hM188 (N := 16384) (by decide) hx12 (pc' := 111) rfl (Nat.le_of_ble_eq_true rfl) (Nat.le_of_ble_eq_true rfl) ?_
          obtain ⟨q191, hq192, hd193⟩ := Option.bind_eq_some_iff.mp hd; clear hd; have hd := hd193; clear hd193
          refine ar_cv ok_Mo_statement hk_Mo_putNumber rfl rfl (As := [.long (q182.2.2.2 35 j11)]) (ad := 22) (rest := []) rfl rfl hM188.1 (Nat.le_of_ble_eq_true rfl) (k_Mo_putNumber (q182.2.2.2 35 j11) q182 h187 hM188 q191 hq192) (Nat.le_of_ble_eq_true rfl) (Nat.le_of_ble_eq_true rfl) (Nat.le_of_ble_eq_true rfl) (Nat.le_of_ble_eq_true rfl) (pc' := 114) rfl (fun r194 h196 z195 => ?_)
          obtain ⟨rfl, hM197, g199⟩ := z195
          have f198 := mF.tr f189 g199
          show am_S _ _ _ _ _ _ _ (114, [some (.ref 22), some (.int v1), some (.int ((64 * (s.1 5)) + v1))], [], h196, 0, 0) _
          refine am_steps ok_Mo_statement 2 (x' := (117, [some (.ref 22), some (.int v1), some (.int ((64 * (s.1 5)) + v1))], [.int 32, .ref 22], h196, 0, 0)) rfl (Nat.le_of_ble_eq_true rfl) (Nat.le_of_ble_eq_true rfl) ?_
          obtain ⟨q200, hq201, hd202⟩ := Option.bind_eq_some_iff.mp hd; clear hd; have hd := hd202; clear hd202
          refine ar_cv ok_Mo_statement hk_Mo_put rfl rfl (As := [.int 32]) (ad := 22) (rest := []) rfl rfl hM197.1 (Nat.le_of_ble_eq_true rfl) (k_Mo_put 32 q191 h196 hM197 q200 hq201) (Nat.le_of_ble_eq_true rfl) (Nat.le_of_ble_eq_true rfl) (Nat.le_of_ble_eq_true rfl) (Nat.le_of_ble_eq_true rfl) (pc' := 120) rfl (fun r203 h205 z204 => ?_)
          obtain ⟨rfl, hM206, g208⟩ := z204
          have f207 := mF.tr f198 g208
          show am_S _ _ _ _ _ _ _ (120, [some (.ref 22), some (.int v1), some (.int ((64 * (s.1 5)) + v1))], [], h205, 0, 0) _
          refine am_steps ok_Mo_statement 2 (x' := (122, [some (.ref 22), some (.int v1), some (.int ((64 * (s.1 5)) + v1))], [.ref 22, .ref 22], h205, 0, 0)) rfl (Nat.le_of_ble_eq_true rfl) (Nat.le_of_ble_eq_true rfl) ?_
          refine mr_get ok_Mo_statement rfl hM206 (v := .ref 31) rfl (pc' := 125) rfl (Nat.le_of_ble_eq_true rfl) (Nat.le_of_ble_eq_true rfl) ?_
          refine am_steps ok_Mo_statement 1 (x' := (126, [some (.ref 22), some (.int v1), some (.int ((64 * (s.1 5)) + v1))], [.int ((64 * (s.1 5)) + v1), .ref 31, .ref 22], h205, 0, 0)) rfl (Nat.le_of_ble_eq_true rfl) (Nat.le_of_ble_eq_true rfl) ?_
          refine mr_lald ok_Mo_statement rfl hM206 (N := 16384) (by decide) hx12 (pc' := 127) rfl (Nat.le_of_ble_eq_true rfl) (Nat.le_of_ble_eq_true rfl) ?_
          obtain ⟨q209, hq210, hd211⟩ := Option.bind_eq_some_iff.mp hd; clear hd; have hd := hd211; clear hd211
          refine ar_cv ok_Mo_statement hk_Mo_putNumber rfl rfl (As := [.long (q200.2.2.2 31 j11)]) (ad := 22) (rest := []) rfl rfl hM206.1 (Nat.le_of_ble_eq_true rfl) (k_Mo_putNumber (q200.2.2.2 31 j11) q200 h205 hM206 q209 hq210) (Nat.le_of_ble_eq_true rfl) (Nat.le_of_ble_eq_true rfl) (Nat.le_of_ble_eq_true rfl) (Nat.le_of_ble_eq_true rfl) (pc' := 130) rfl (fun r212 h214 z213 => ?_)
          obtain ⟨rfl, hM215, g217⟩ := z213
          have f216 := mF.tr f207 g217
          show am_S _ _ _ _ _ _ _ (130, [some (.ref 22), some (.int v1), some (.int ((64 * (s.1 5)) + v1))], [], h214, 0, 0) _
          refine am_steps ok_Mo_statement 2 (x' := (133, [some (.ref 22), some (.int v1), some (.int ((64 * (s.1 5)) + v1))], [.int 32, .ref 22], h214, 0, 0)) rfl (Nat.le_of_ble_eq_true rfl) (Nat.le_of_ble_eq_true rfl) ?_
          obtain ⟨q218, hq219, hd220⟩ := Option.bind_eq_some_iff.mp hd; clear hd; have hd := hd220; clear hd220
          refine ar_cv ok_Mo_statement hk_Mo_put rfl rfl (As := [.int 32]) (ad := 22) (rest := []) rfl rfl hM215.1 (Nat.le_of_ble_eq_true rfl) (k_Mo_put 32 q209 h214 hM215 q218 hq219) (Nat.le_of_ble_eq_true rfl) (Nat.le_of_ble_eq_true rfl) (Nat.le_of_ble_eq_true rfl) (Nat.le_of_ble_eq_true rfl) (pc' := 136) rfl (fun r221 h223 z222 => ?_)
          obtain ⟨rfl, hM224, g226⟩ := z222
          have f225 := mF.tr f216 g226
          show am_S _ _ _ _ _ _ _ (136, [some (.ref 22), some (.int v1), some (.int ((64 * (s.1 5)) + v1))], [], h223, 0, 0) _
          refine am_steps ok_Mo_statement 2 (x' := (138, [some (.ref 22), some (.int v1), some (.int ((64 * (s.1 5)) + v1))], [.ref 22, .ref 22], h223, 0, 0)) rfl (Nat.le_of_ble_eq_true rfl) (Nat.le_of_ble_eq_true rfl) ?_
          refine mr_get ok_Mo_statement rfl hM224 (v := .ref 36) rfl (pc' := 141) rfl (Nat.le_of_ble_eq_true rfl) (Nat.le_of_ble_eq_true rfl) ?_
          refine am_steps ok_Mo_statement 1 (x' := (142, [some (.ref 22), some (.int v1), some (.int ((64 * (s.1 5)) + v1))], [.int ((64 * (s.1 5)) + v1), .ref 36, .ref 22], h223, 0, 0)) rfl (Nat.le_of_ble_eq_true rfl) (Nat.le_of_ble_eq_true rfl) ?_
          refine mr_iald ok_Mo_statement rfl hM224 (N := 16384) (by decide) hx12 (pc' := 143) rfl (Nat.le_of_ble_eq_true rfl) (Nat.le_of_ble_eq_true rfl) ?_
          refine am_steps ok_Mo_statement 1 (x' := (144, [some (.ref 22), some (.int v1), some (.int ((64 * (s.1 5)) + v1))], [.long (Int32.toInt64 (q218.2.2.1 36 j11)), .ref 22], h223, 0, 0)) rfl (Nat.le_of_ble_eq_true rfl) (Nat.le_of_ble_eq_true rfl) ?_
          obtain ⟨q227, hq228, hd229⟩ := Option.bind_eq_some_iff.mp hd; clear hd; have hd := hd229; clear hd229
          refine ar_cv ok_Mo_statement hk_Mo_putNumber rfl rfl (As := [.long (Int32.toInt64 (q218.2.2.1 36 j11))]) (ad := 22) (rest := []) rfl rfl hM224.1 (Nat.le_of_ble_eq_true rfl) (k_Mo_putNumber (Int32.toInt64 (q218.2.2.1 36 j11)) q218 h223 hM224 q227 hq228) (Nat.le_of_ble_eq_true rfl) (Nat.le_of_ble_eq_true rfl) (Nat.le_of_ble_eq_true rfl) (Nat.le_of_ble_eq_true rfl) (pc' := 147) rfl (fun r230 h232 z231 => ?_)
          obtain ⟨rfl, hM233, g235⟩ := z231
          have f234 := mF.tr f225 g235
          show am_S _ _ _ _ _ _ _ (147, [some (.ref 22), some (.int v1), some (.int ((64 * (s.1 5)) + v1))], [], h232, 0, 0) _
          refine am_steps ok_Mo_statement 2 (x' := (150, [some (.ref 22), some (.int v1), some (.int ((64 * (s.1 5)) + v1))], [.int 10, .ref 22], h232, 0, 0)) rfl (Nat.le_of_ble_eq_true rfl) (Nat.le_of_ble_eq_true rfl) ?_
          obtain ⟨q236, hq237, hd238⟩ := Option.bind_eq_some_iff.mp hd; clear hd; have hd := hd238; clear hd238
          refine ar_cv ok_Mo_statement hk_Mo_put rfl rfl (As := [.int 10]) (ad := 22) (rest := []) rfl rfl hM233.1 (Nat.le_of_ble_eq_true rfl) (k_Mo_put 10 q227 h232 hM233 q236 hq237) (Nat.le_of_ble_eq_true rfl) (Nat.le_of_ble_eq_true rfl) (Nat.le_of_ble_eq_true rfl) (Nat.le_of_ble_eq_true rfl) (pc' := 153) rfl (fun r239 h241 z240 => ?_)
          obtain ⟨rfl, hM242, g244⟩ := z240
          have f243 := mF.tr f234 g244
          show am_S _ _ _ _ _ _ _ (153, [some (.ref 22), some (.int v1), some (.int ((64 * (s.1 5)) + v1))], [], h241, 0, 0) _
          refine am_drop 2 ?_
          cases hd; exact K15 h241 hM242 f243
        · rw [if_neg hc133] at hd
          refine am_steps ok_Mo_statement 1 (x' := (153, [some (.ref 22), some (.int v1), some (.int ((64 * (s.1 5)) + v1))], [], h, 0, 0)) rfl (Nat.le_of_ble_eq_true rfl) (Nat.le_of_ble_eq_true rfl) ?_
          refine am_drop 2 ?_
          cases hd; exact K15 h hM f
def d_Mo_statement  (s : mS) : Option (mS) := (d_Mo_putWord 79 75 10 0 0 s).bind fun q1 => ((l_Mo_statement_14 100000 0 q1).bind fun q245 => (some q245))
set_option maxHeartbeats 4000000 in
set_option maxRecDepth 100000 in
theorem k_Mo_statement  (s : mS) (h0 : am_H) (hM : RM s h0) (q : mS) (hd : d_Mo_statement  s = some q) : am_Me am_Pr none 2 49 0 0 80 [.ref 22] h0 (mQv q h0) := by
  refine am_enter (d := hd_Mo_statement) rfl (by decide +kernel) (Nat.le_of_ble_eq_true rfl) ?_
  show am_S _ _ _ _ _ _ _ (0, [some (.ref 22), none, none], [], h0, 0, 0) _
  unfold d_Mo_statement at hd
  refine am_steps ok_Mo_statement 6 (x' := (9, [some (.ref 22), none, none], [.int 0, .int 0, .int 10, .int 75, .int 79, .ref 22], h0, 0, 0)) rfl (Nat.le_of_ble_eq_true rfl) (Nat.le_of_ble_eq_true rfl) ?_
  obtain ⟨q1, hq2, hd3⟩ := Option.bind_eq_some_iff.mp hd; clear hd; have hd := hd3; clear hd3
  refine ar_cv ok_Mo_statement hk_Mo_putWord rfl rfl (As := [.int 79, .int 75, .int 10, .int 0, .int 0]) (ad := 22) (rest := []) rfl rfl hM.1 (Nat.le_of_ble_eq_true rfl) (k_Mo_putWord 79 75 10 0 0 s h0 hM q1 hq2) (Nat.le_of_ble_eq_true rfl) (Nat.le_of_ble_eq_true rfl) (Nat.le_of_ble_eq_true rfl) (Nat.le_of_ble_eq_true rfl) (pc' := 12) rfl (fun r4 h6 z5 => ?_)
  obtain ⟨rfl, hM7, g9⟩ := z5
  have f8 := mF.tr (mF.rf) g9
  show am_S _ _ _ _ _ _ _ (12, [some (.ref 22), none, none], [], h6, 0, 0) _
  refine am_steps ok_Mo_statement 2 (x' := (14, [some (.ref 22), some (.int 0), none], [], h6, 0, 0)) rfl (Nat.le_of_ble_eq_true rfl) (Nat.le_of_ble_eq_true rfl) ?_
  obtain ⟨q245, hq246, hd247⟩ := Option.bind_eq_some_iff.mp hd; clear hd; have hd := hd247; clear hd247
  refine L_Mo_statement_14 h0 100000 0 q1 h6 hM7 f8 q245 hq246 (fun h248 hM249 f250 => ?_)
  show am_S _ _ _ _ _ _ _ (159, [some (.ref 22), none, none], [], h248, 0, 0) _
  cases hd; exact am_ret ok_Mo_statement rfl (Nat.le_of_ble_eq_true rfl) (Nat.le_of_ble_eq_true rfl) ⟨rfl, hM249, f250⟩
def d_Mo_ends (a : Int32) (b : Int64) (s : mS) : Option (mS) := (d_Mo_openOf a b s).bind fun q1 => (if ((s.1 54) : Int32) = 0 then (if (q1 : Int32) < 0 then ((d_Mo_putWord 67 79 78 70 0 s).bind fun q14 => (some q14)) else ((am_ix q1 250).bind fun j23 => (if ((s.2.2.1 48 j23) : Int32) = 0 then ((d_Mo_putWord 67 79 78 70 0 s).bind fun q27 => (some q27)) else ((d_Mo_putWord 87 65 73 84 0 s).bind fun q36 => (some q36))))) else ((d_Mo_putWord 68 79 78 69 0 s).bind fun q45 => (some q45)))
set_option maxHeartbeats 4000000 in
set_option maxRecDepth 100000 in
theorem k_Mo_ends (a : Int32) (b : Int64) (s : mS) (h0 : am_H) (hM : RM s h0) (q : mS) (hd : d_Mo_ends a b s = some q) : am_Me am_Pr none 2 46 0 0 81 [.ref 22, .int a, .long b] h0 (mQv q h0) := by
  refine am_enter (d := hd_Mo_ends) rfl (by decide +kernel) (Nat.le_of_ble_eq_true rfl) ?_
  show am_S _ _ _ _ _ _ _ (0, [some (.ref 22), some (.int a), some (.long b), none, none], [], h0, 0, 0) _
  unfold d_Mo_ends at hd
  refine am_steps ok_Mo_ends 3 (x' := (3, [some (.ref 22), some (.int a), some (.long b), none, none], [.long b, .int a, .ref 22], h0, 0, 0)) rfl (Nat.le_of_ble_eq_true rfl) (Nat.le_of_ble_eq_true rfl) ?_
  obtain ⟨q1, hq2, hd3⟩ := Option.bind_eq_some_iff.mp hd; clear hd; have hd := hd3; clear hd3
  refine ar_cv ok_Mo_ends hk_Mo_openOf rfl rfl (As := [.int a, .long b]) (ad := 22) (rest := []) rfl rfl hM.1 (Nat.le_of_ble_eq_true rfl) (k_Mo_openOf a b s h0 hM q1 hq2) (Nat.le_of_ble_eq_true rfl) (Nat.le_of_ble_eq_true rfl) (Nat.le_of_ble_eq_true rfl) (Nat.le_of_ble_eq_true rfl) (pc' := 6) rfl (fun r4 h6 z5 => ?_)
  obtain ⟨z10, z11⟩ := z5; subst z10; rw [z11]
  show am_S _ _ _ _ _ _ _ (6, [some (.ref 22), some (.int a), some (.long b), none, none], [.int q1], h0, 0, 0) _
  refine am_steps ok_Mo_ends 2 (x' := (9, [some (.ref 22), some (.int a), some (.long b), none, some (.int q1)], [.ref 22], h0, 0, 0)) rfl (Nat.le_of_ble_eq_true rfl) (Nat.le_of_ble_eq_true rfl) ?_
  refine mr_get ok_Mo_ends rfl hM (v := .int (s.1 54)) rfl (pc' := 12) rfl (Nat.le_of_ble_eq_true rfl) (Nat.le_of_ble_eq_true rfl) ?_
  refine am_steps ok_Mo_ends 1 (x' := (if ((s.1 54) : Int32) = 0 then 31 else 15, [some (.ref 22), some (.int a), some (.long b), none, some (.int q1)], [], h0, 0, 0)) rfl (Nat.le_of_ble_eq_true rfl) (Nat.le_of_ble_eq_true rfl) ?_
  refine am_if (fun hc12 => ?_) (fun hc12 => ?_)
  · rw [if_pos hc12] at hd
    refine am_steps ok_Mo_ends 2 (x' := (if (q1 : Int32) < 0 then 62 else 36, [some (.ref 22), some (.int a), some (.long b), none, some (.int q1)], [], h0, 0, 0)) rfl (Nat.le_of_ble_eq_true rfl) (Nat.le_of_ble_eq_true rfl) ?_
    refine am_if (fun hc13 => ?_) (fun hc13 => ?_)
    · rw [if_pos hc13] at hd
      refine am_steps ok_Mo_ends 6 (x' := (72, [some (.ref 22), some (.int a), some (.long b), none, some (.int q1)], [.int 0, .int 70, .int 78, .int 79, .int 67, .ref 22], h0, 0, 0)) rfl (Nat.le_of_ble_eq_true rfl) (Nat.le_of_ble_eq_true rfl) ?_
      obtain ⟨q14, hq15, hd16⟩ := Option.bind_eq_some_iff.mp hd; clear hd; have hd := hd16; clear hd16
      refine ar_cv ok_Mo_ends hk_Mo_putWord rfl rfl (As := [.int 67, .int 79, .int 78, .int 70, .int 0]) (ad := 22) (rest := []) rfl rfl hM.1 (Nat.le_of_ble_eq_true rfl) (k_Mo_putWord 67 79 78 70 0 s h0 hM q14 hq15) (Nat.le_of_ble_eq_true rfl) (Nat.le_of_ble_eq_true rfl) (Nat.le_of_ble_eq_true rfl) (Nat.le_of_ble_eq_true rfl) (pc' := 75) rfl (fun r17 h19 z18 => ?_)
      obtain ⟨rfl, hM20, g22⟩ := z18
      have f21 := mF.tr (mF.rf) g22
      show am_S _ _ _ _ _ _ _ (75, [some (.ref 22), some (.int a), some (.long b), none, some (.int q1)], [], h19, 0, 0) _
      cases hd; exact am_ret ok_Mo_ends rfl (Nat.le_of_ble_eq_true rfl) (Nat.le_of_ble_eq_true rfl) ⟨rfl, hM20, f21⟩
    · rw [if_neg hc13] at hd
      refine am_steps ok_Mo_ends 1 (x' := (37, [some (.ref 22), some (.int a), some (.long b), none, some (.int q1)], [.ref 22], h0, 0, 0)) rfl (Nat.le_of_ble_eq_true rfl) (Nat.le_of_ble_eq_true rfl) ?_
      refine mr_get ok_Mo_ends rfl hM (v := .ref 48) rfl (pc' := 40) rfl (Nat.le_of_ble_eq_true rfl) (Nat.le_of_ble_eq_true rfl) ?_
      refine am_steps ok_Mo_ends 1 (x' := (42, [some (.ref 22), some (.int a), some (.long b), none, some (.int q1)], [.int q1, .ref 48], h0, 0, 0)) rfl (Nat.le_of_ble_eq_true rfl) (Nat.le_of_ble_eq_true rfl) ?_
      obtain ⟨j23, hx24, hd25⟩ := Option.bind_eq_some_iff.mp hd; clear hd; have hd := hd25; clear hd25
      refine mr_bald ok_Mo_ends rfl hM (N := 250) (by decide) (Or.inr rfl) hx24 (pc' := 43) rfl (Nat.le_of_ble_eq_true rfl) (Nat.le_of_ble_eq_true rfl) ?_
      refine am_steps ok_Mo_ends 1 (x' := (if ((s.2.2.1 48 j23) : Int32) = 0 then 62 else 46, [some (.ref 22), some (.int a), some (.long b), none, some (.int q1)], [], h0, 0, 0)) rfl (Nat.le_of_ble_eq_true rfl) (Nat.le_of_ble_eq_true rfl) ?_
      refine am_if (fun hc26 => ?_) (fun hc26 => ?_)
      · rw [if_pos hc26] at hd
        refine am_steps ok_Mo_ends 6 (x' := (72, [some (.ref 22), some (.int a), some (.long b), none, some (.int q1)], [.int 0, .int 70, .int 78, .int 79, .int 67, .ref 22], h0, 0, 0)) rfl (Nat.le_of_ble_eq_true rfl) (Nat.le_of_ble_eq_true rfl) ?_
        obtain ⟨q27, hq28, hd29⟩ := Option.bind_eq_some_iff.mp hd; clear hd; have hd := hd29; clear hd29
        refine ar_cv ok_Mo_ends hk_Mo_putWord rfl rfl (As := [.int 67, .int 79, .int 78, .int 70, .int 0]) (ad := 22) (rest := []) rfl rfl hM.1 (Nat.le_of_ble_eq_true rfl) (k_Mo_putWord 67 79 78 70 0 s h0 hM q27 hq28) (Nat.le_of_ble_eq_true rfl) (Nat.le_of_ble_eq_true rfl) (Nat.le_of_ble_eq_true rfl) (Nat.le_of_ble_eq_true rfl) (pc' := 75) rfl (fun r30 h32 z31 => ?_)
        obtain ⟨rfl, hM33, g35⟩ := z31
        have f34 := mF.tr (mF.rf) g35
        show am_S _ _ _ _ _ _ _ (75, [some (.ref 22), some (.int a), some (.long b), none, some (.int q1)], [], h32, 0, 0) _
        cases hd; exact am_ret ok_Mo_ends rfl (Nat.le_of_ble_eq_true rfl) (Nat.le_of_ble_eq_true rfl) ⟨rfl, hM33, f34⟩
      · rw [if_neg hc26] at hd
        refine am_steps ok_Mo_ends 6 (x' := (56, [some (.ref 22), some (.int a), some (.long b), none, some (.int q1)], [.int 0, .int 84, .int 73, .int 65, .int 87, .ref 22], h0, 0, 0)) rfl (Nat.le_of_ble_eq_true rfl) (Nat.le_of_ble_eq_true rfl) ?_
        obtain ⟨q36, hq37, hd38⟩ := Option.bind_eq_some_iff.mp hd; clear hd; have hd := hd38; clear hd38
        refine ar_cv ok_Mo_ends hk_Mo_putWord rfl rfl (As := [.int 87, .int 65, .int 73, .int 84, .int 0]) (ad := 22) (rest := []) rfl rfl hM.1 (Nat.le_of_ble_eq_true rfl) (k_Mo_putWord 87 65 73 84 0 s h0 hM q36 hq37) (Nat.le_of_ble_eq_true rfl) (Nat.le_of_ble_eq_true rfl) (Nat.le_of_ble_eq_true rfl) (Nat.le_of_ble_eq_true rfl) (pc' := 59) rfl (fun r39 h41 z40 => ?_)
        obtain ⟨rfl, hM42, g44⟩ := z40
        have f43 := mF.tr (mF.rf) g44
        show am_S _ _ _ _ _ _ _ (59, [some (.ref 22), some (.int a), some (.long b), none, some (.int q1)], [], h41, 0, 0) _
        refine am_steps ok_Mo_ends 1 (x' := (75, [some (.ref 22), some (.int a), some (.long b), none, some (.int q1)], [], h41, 0, 0)) rfl (Nat.le_of_ble_eq_true rfl) (Nat.le_of_ble_eq_true rfl) ?_
        cases hd; exact am_ret ok_Mo_ends rfl (Nat.le_of_ble_eq_true rfl) (Nat.le_of_ble_eq_true rfl) ⟨rfl, hM42, f43⟩
  · rw [if_neg hc12] at hd
    refine am_steps ok_Mo_ends 6 (x' := (25, [some (.ref 22), some (.int a), some (.long b), none, some (.int q1)], [.int 0, .int 69, .int 78, .int 79, .int 68, .ref 22], h0, 0, 0)) rfl (Nat.le_of_ble_eq_true rfl) (Nat.le_of_ble_eq_true rfl) ?_
    obtain ⟨q45, hq46, hd47⟩ := Option.bind_eq_some_iff.mp hd; clear hd; have hd := hd47; clear hd47
    refine ar_cv ok_Mo_ends hk_Mo_putWord rfl rfl (As := [.int 68, .int 79, .int 78, .int 69, .int 0]) (ad := 22) (rest := []) rfl rfl hM.1 (Nat.le_of_ble_eq_true rfl) (k_Mo_putWord 68 79 78 69 0 s h0 hM q45 hq46) (Nat.le_of_ble_eq_true rfl) (Nat.le_of_ble_eq_true rfl) (Nat.le_of_ble_eq_true rfl) (Nat.le_of_ble_eq_true rfl) (pc' := 28) rfl (fun r48 h50 z49 => ?_)
    obtain ⟨rfl, hM51, g53⟩ := z49
    have f52 := mF.tr (mF.rf) g53
    show am_S _ _ _ _ _ _ _ (28, [some (.ref 22), some (.int a), some (.long b), none, some (.int q1)], [], h50, 0, 0) _
    refine am_steps ok_Mo_ends 1 (x' := (75, [some (.ref 22), some (.int a), some (.long b), none, some (.int q1)], [], h50, 0, 0)) rfl (Nat.le_of_ble_eq_true rfl) (Nat.le_of_ble_eq_true rfl) ?_
    cases hd; exact am_ret ok_Mo_ends rfl (Nat.le_of_ble_eq_true rfl) (Nat.le_of_ble_eq_true rfl) ⟨rfl, hM51, f52⟩
def d_Mo_answers  (s : mS) : Option (mS) := (d_Mo_putWord 79 75 0 0 0 s).bind fun q1 => ((if ((q1.1 4) : Int32) = 5 then (some 1) else (if ¬ ((q1.1 4) : Int32) = 6 then (some 0) else (some 1))).bind fun (u10 : Int32) => ((if ¬ ((q1.1 4) : Int32) = 6 then (some (q1.1 5)) else ((d_Mo_memberAt 15 q1).bind fun q148 => (some q148))).bind fun (u14 : Int32) => ((if ¬ ((q1.1 4) : Int32) = 6 then ((d_Mo_packed 7 8 (mI q1 53 u14)).bind fun q125 => (some q125)) else ((d_Mo_packed 19 8 (mI q1 53 u14)).bind fun q136 => (some q136))).bind fun (u22 : Int64) => ((if (u10 : Int32) = 0 then (some (mI (mL (mI q1 53 u14) 52 u22) 54 0)) else ((d_Mo_putWord 32 46 46 46 46 (mI (mL (mI q1 53 u14) 52 u22) 54 0)).bind fun q115 => (some q115))).bind fun (u34 : mS) => ((d_Mo_put 10 u34).bind fun q41 => ((d_Mo_does  q41).bind fun q50 => ((if ¬ ((q50.1 4) : Int32) = 13 then (if ((q50.1 4) : Int32) = 0 then (some q50) else (if ((q50.1 4) : Int32) = 1 then (some q50) else ((d_Mo_settle  q50).bind fun q96 => (some q96)))) else ((d_Mo_resolve  q50).bind fun q105 => (some q105))).bind fun (u59 : mS) => ((d_Mo_check  u59).bind fun q66 => (if ¬ (u10 : Int32) = 0 then ((d_Mo_ends (q66.1 53) (q66.2.1 52) (mI q66 7 ((q1.1 7) + 1))).bind fun q80 => (some (mI q80 7 (q66.1 7)))) else (some q66))))))))))
set_option maxHeartbeats 4000000 in
set_option maxRecDepth 100000 in
theorem k_Mo_answers  (s : mS) (h0 : am_H) (hM : RM s h0) (q : mS) (hd : d_Mo_answers  s = some q) : am_Me am_Pr none 6 153 0 0 82 [.ref 22] h0 (mQv q h0) := by
  refine am_enter (d := hd_Mo_answers) rfl (by decide +kernel) (Nat.le_of_ble_eq_true rfl) ?_
  show am_S _ _ _ _ _ _ _ (0, [some (.ref 22), none, none, none], [], h0, 0, 0) _
  unfold d_Mo_answers at hd
  refine am_steps ok_Mo_answers 6 (x' := (8, [some (.ref 22), none, none, none], [.int 0, .int 0, .int 0, .int 75, .int 79, .ref 22], h0, 0, 0)) rfl (Nat.le_of_ble_eq_true rfl) (Nat.le_of_ble_eq_true rfl) ?_
  obtain ⟨q1, hq2, hd3⟩ := Option.bind_eq_some_iff.mp hd; clear hd; have hd := hd3; clear hd3
  refine ar_cv ok_Mo_answers hk_Mo_putWord rfl rfl (As := [.int 79, .int 75, .int 0, .int 0, .int 0]) (ad := 22) (rest := []) rfl rfl hM.1 (Nat.le_of_ble_eq_true rfl) (k_Mo_putWord 79 75 0 0 0 s h0 hM q1 hq2) (Nat.le_of_ble_eq_true rfl) (Nat.le_of_ble_eq_true rfl) (Nat.le_of_ble_eq_true rfl) (Nat.le_of_ble_eq_true rfl) (pc' := 11) rfl (fun r4 h6 z5 => ?_)
  obtain ⟨rfl, hM7, g9⟩ := z5
  have f8 := mF.tr (mF.rf) g9
  show am_S _ _ _ _ _ _ _ (11, [some (.ref 22), none, none, none], [], h6, 0, 0) _
  refine am_steps ok_Mo_answers 1 (x' := (12, [some (.ref 22), none, none, none], [.ref 22], h6, 0, 0)) rfl (Nat.le_of_ble_eq_true rfl) (Nat.le_of_ble_eq_true rfl) ?_
  refine mr_get ok_Mo_answers rfl hM7 (v := .int (q1.1 4)) rfl (pc' := 15) rfl (Nat.le_of_ble_eq_true rfl) (Nat.le_of_ble_eq_true rfl) ?_
  refine am_steps ok_Mo_answers 2 (x' := (if ((q1.1 4) : Int32) = 5 then 28 else 19, [some (.ref 22), none, none, none], [], h6, 0, 0)) rfl (Nat.le_of_ble_eq_true rfl) (Nat.le_of_ble_eq_true rfl) ?_
  obtain ⟨u10, hA12, hB13⟩ := Option.bind_eq_some_iff.mp hd; clear hd
  have K11 : am_S am_Pr none 6 153 0 0 82 (33, [some (.ref 22), none, none, none], [.int u10], h6, 0, 0) (mQv q h0) := by
    have hd := hB13
    refine am_steps ok_Mo_answers 3 (x' := (36, [some (.ref 22), some (.int u10), none, none], [.ref 22, .ref 22], h6, 0, 0)) rfl (Nat.le_of_ble_eq_true rfl) (Nat.le_of_ble_eq_true rfl) ?_
    refine mr_get ok_Mo_answers rfl hM7 (v := .int (q1.1 4)) rfl (pc' := 39) rfl (Nat.le_of_ble_eq_true rfl) (Nat.le_of_ble_eq_true rfl) ?_
    refine am_steps ok_Mo_answers 2 (x' := (if ¬ ((q1.1 4) : Int32) = 6 then 53 else 44, [some (.ref 22), some (.int u10), none, none], [.ref 22], h6, 0, 0)) rfl (Nat.le_of_ble_eq_true rfl) (Nat.le_of_ble_eq_true rfl) ?_
    obtain ⟨u14, hA16, hB17⟩ := Option.bind_eq_some_iff.mp hd; clear hd
    have K15 : am_S am_Pr none 6 153 0 0 82 (57, [some (.ref 22), some (.int u10), none, none], [.int u14, .ref 22], h6, 0, 0) (mQv q h0) := by
      have hd := hB17
      refine mr_put ok_Mo_answers rfl hM7 (by decide) rfl (s' := (mI q1 53 u14)) (mfs_53 _ _) rfl (pc' := 60) rfl (Nat.le_of_ble_eq_true rfl) (Nat.le_of_ble_eq_true rfl) (fun h18 hM19 g21 => ?_)
      have f20 := mF.tr f8 g21
      refine am_steps ok_Mo_answers 2 (x' := (62, [some (.ref 22), some (.int u10), none, none], [.ref 22, .ref 22], h18, 0, 0)) rfl (Nat.le_of_ble_eq_true rfl) (Nat.le_of_ble_eq_true rfl) ?_
      refine mr_get ok_Mo_answers rfl hM19 (v := .int (q1.1 4)) rfl (pc' := 65) rfl (Nat.le_of_ble_eq_true rfl) (Nat.le_of_ble_eq_true rfl) ?_
      refine am_steps ok_Mo_answers 2 (x' := (if ¬ ((q1.1 4) : Int32) = 6 then 81 else 70, [some (.ref 22), some (.int u10), none, none], [.ref 22], h18, 0, 0)) rfl (Nat.le_of_ble_eq_true rfl) (Nat.le_of_ble_eq_true rfl) ?_
      obtain ⟨u22, hA24, hB25⟩ := Option.bind_eq_some_iff.mp hd; clear hd
      have K23 : am_S am_Pr none 6 153 0 0 82 (89, [some (.ref 22), some (.int u10), none, none], [.long u22, .ref 22], h18, 0, 0) (mQv q h0) := by
        have hd := hB25
        refine mr_put ok_Mo_answers rfl hM19 (by decide) rfl (s' := (mL (mI q1 53 u14) 52 u22)) (mfs_52 _ _) rfl (pc' := 92) rfl (Nat.le_of_ble_eq_true rfl) (Nat.le_of_ble_eq_true rfl) (fun h26 hM27 g29 => ?_)
        have f28 := mF.tr f20 g29
        refine am_steps ok_Mo_answers 2 (x' := (94, [some (.ref 22), some (.int u10), none, none], [.int 0, .ref 22], h26, 0, 0)) rfl (Nat.le_of_ble_eq_true rfl) (Nat.le_of_ble_eq_true rfl) ?_
        refine mr_put ok_Mo_answers rfl hM27 (by decide) rfl (s' := (mI (mL (mI q1 53 u14) 52 u22) 54 0)) (mfs_54 _ _) rfl (pc' := 97) rfl (Nat.le_of_ble_eq_true rfl) (Nat.le_of_ble_eq_true rfl) (fun h30 hM31 g33 => ?_)
        have f32 := mF.tr f28 g33
        refine am_steps ok_Mo_answers 1 (x' := (98, [some (.ref 22), some (.int u10), none, none], [.ref 22], h30, 0, 0)) rfl (Nat.le_of_ble_eq_true rfl) (Nat.le_of_ble_eq_true rfl) ?_
        refine mr_get ok_Mo_answers rfl hM31 (v := .int (q1.1 7)) rfl (pc' := 101) rfl (Nat.le_of_ble_eq_true rfl) (Nat.le_of_ble_eq_true rfl) ?_
        refine am_steps ok_Mo_answers 3 (x' := (if (u10 : Int32) = 0 then 120 else 106, [some (.ref 22), some (.int u10), some (.int (q1.1 7)), none], [], h30, 0, 0)) rfl (Nat.le_of_ble_eq_true rfl) (Nat.le_of_ble_eq_true rfl) ?_
        obtain ⟨u34, hA36, hB37⟩ := Option.bind_eq_some_iff.mp hd; clear hd
        have K35 : ∀ h' : am_H, RM u34 h' → mF h0 h' → am_S am_Pr none 6 153 0 0 82 (120, [some (.ref 22), some (.int u10), some (.int (q1.1 7)), none], [], h', 0, 0) (mQv q h0) := by
          have hd := hB37
          intro h38 hM39 f40
          refine am_steps ok_Mo_answers 2 (x' := (123, [some (.ref 22), some (.int u10), some (.int (q1.1 7)), none], [.int 10, .ref 22], h38, 0, 0)) rfl (Nat.le_of_ble_eq_true rfl) (Nat.le_of_ble_eq_true rfl) ?_
          obtain ⟨q41, hq42, hd43⟩ := Option.bind_eq_some_iff.mp hd; clear hd; have hd := hd43; clear hd43
          refine ar_cv ok_Mo_answers hk_Mo_put rfl rfl (As := [.int 10]) (ad := 22) (rest := []) rfl rfl hM39.1 (Nat.le_of_ble_eq_true rfl) (k_Mo_put 10 u34 h38 hM39 q41 hq42) (Nat.le_of_ble_eq_true rfl) (Nat.le_of_ble_eq_true rfl) (Nat.le_of_ble_eq_true rfl) (Nat.le_of_ble_eq_true rfl) (pc' := 126) rfl (fun r44 h46 z45 => ?_)
          obtain ⟨rfl, hM47, g49⟩ := z45
          have f48 := mF.tr f40 g49
          show am_S _ _ _ _ _ _ _ (126, [some (.ref 22), some (.int u10), some (.int (q1.1 7)), none], [], h46, 0, 0) _
          refine am_steps ok_Mo_answers 1 (x' := (127, [some (.ref 22), some (.int u10), some (.int (q1.1 7)), none], [.ref 22], h46, 0, 0)) rfl (Nat.le_of_ble_eq_true rfl) (Nat.le_of_ble_eq_true rfl) ?_
          obtain ⟨q50, hq51, hd52⟩ := Option.bind_eq_some_iff.mp hd; clear hd; have hd := hd52; clear hd52
          refine ar_cv ok_Mo_answers hk_Mo_does rfl rfl (As := []) (ad := 22) (rest := []) rfl rfl hM47.1 (Nat.le_of_ble_eq_true rfl) (k_Mo_does  q41 h46 hM47 q50 hq51) (Nat.le_of_ble_eq_true rfl) (Nat.le_of_ble_eq_true rfl) (Nat.le_of_ble_eq_true rfl) (Nat.le_of_ble_eq_true rfl) (pc' := 130) rfl (fun r53 h55 z54 => ?_)
          obtain ⟨rfl, hM56, g58⟩ := z54
          have f57 := mF.tr f48 g58
          show am_S _ _ _ _ _ _ _ (130, [some (.ref 22), some (.int u10), some (.int (q1.1 7)), none], [], h55, 0, 0) _
          refine am_steps ok_Mo_answers 1 (x' := (131, [some (.ref 22), some (.int u10), some (.int (q1.1 7)), none], [.ref 22], h55, 0, 0)) rfl (Nat.le_of_ble_eq_true rfl) (Nat.le_of_ble_eq_true rfl) ?_
          refine mr_get ok_Mo_answers rfl hM56 (v := .int (q50.1 4)) rfl (pc' := 134) rfl (Nat.le_of_ble_eq_true rfl) (Nat.le_of_ble_eq_true rfl) ?_
          refine am_steps ok_Mo_answers 2 (x' := (if ¬ ((q50.1 4) : Int32) = 13 then 146 else 139, [some (.ref 22), some (.int u10), some (.int (q1.1 7)), none], [], h55, 0, 0)) rfl (Nat.le_of_ble_eq_true rfl) (Nat.le_of_ble_eq_true rfl) ?_
          obtain ⟨u59, hA61, hB62⟩ := Option.bind_eq_some_iff.mp hd; clear hd
          have K60 : ∀ h' : am_H, RM u59 h' → mF h0 h' → am_S am_Pr none 6 153 0 0 82 (165, [some (.ref 22), some (.int u10), some (.int (q1.1 7)), none], [], h', 0, 0) (mQv q h0) := by
            have hd := hB62
            intro h63 hM64 f65
            refine am_steps ok_Mo_answers 1 (x' := (166, [some (.ref 22), some (.int u10), some (.int (q1.1 7)), none], [.ref 22], h63, 0, 0)) rfl (Nat.le_of_ble_eq_true rfl) (Nat.le_of_ble_eq_true rfl) ?_
            obtain ⟨q66, hq67, hd68⟩ := Option.bind_eq_some_iff.mp hd; clear hd; have hd := hd68; clear hd68
            refine ar_cv ok_Mo_answers hk_Mo_check rfl rfl (As := []) (ad := 22) (rest := []) rfl rfl hM64.1 (Nat.le_of_ble_eq_true rfl) (k_Mo_check  u59 h63 hM64 q66 hq67) (Nat.le_of_ble_eq_true rfl) (Nat.le_of_ble_eq_true rfl) (Nat.le_of_ble_eq_true rfl) (Nat.le_of_ble_eq_true rfl) (pc' := 169) rfl (fun r69 h71 z70 => ?_)
            obtain ⟨rfl, hM72, g74⟩ := z70
            have f73 := mF.tr f65 g74
            show am_S _ _ _ _ _ _ _ (169, [some (.ref 22), some (.int u10), some (.int (q1.1 7)), none], [], h71, 0, 0) _
            refine am_steps ok_Mo_answers 2 (x' := (if ¬ (u10 : Int32) = 0 then 174 else 173, [some (.ref 22), some (.int u10), some (.int (q1.1 7)), none], [], h71, 0, 0)) rfl (Nat.le_of_ble_eq_true rfl) (Nat.le_of_ble_eq_true rfl) ?_
            refine am_if (fun hc75 => ?_) (fun hc75 => ?_)
            · rw [if_pos hc75] at hd
              refine am_steps ok_Mo_answers 1 (x' := (175, [some (.ref 22), some (.int u10), some (.int (q1.1 7)), none], [.ref 22], h71, 0, 0)) rfl (Nat.le_of_ble_eq_true rfl) (Nat.le_of_ble_eq_true rfl) ?_
              refine mr_get ok_Mo_answers rfl hM72 (v := .int (q66.1 7)) rfl (pc' := 178) rfl (Nat.le_of_ble_eq_true rfl) (Nat.le_of_ble_eq_true rfl) ?_
              refine am_steps ok_Mo_answers 5 (x' := (183, [some (.ref 22), some (.int u10), some (.int (q1.1 7)), some (.int (q66.1 7))], [.int ((q1.1 7) + 1), .ref 22], h71, 0, 0)) rfl (Nat.le_of_ble_eq_true rfl) (Nat.le_of_ble_eq_true rfl) ?_
              refine mr_put ok_Mo_answers rfl hM72 (by decide) rfl (s' := (mI q66 7 ((q1.1 7) + 1))) (mfs_7 _ _) rfl (pc' := 186) rfl (Nat.le_of_ble_eq_true rfl) (Nat.le_of_ble_eq_true rfl) (fun h76 hM77 g79 => ?_)
              have f78 := mF.tr f73 g79
              refine am_steps ok_Mo_answers 2 (x' := (188, [some (.ref 22), some (.int u10), some (.int (q1.1 7)), some (.int (q66.1 7))], [.ref 22, .ref 22], h76, 0, 0)) rfl (Nat.le_of_ble_eq_true rfl) (Nat.le_of_ble_eq_true rfl) ?_
              refine mr_get ok_Mo_answers rfl hM77 (v := .int (q66.1 53)) rfl (pc' := 191) rfl (Nat.le_of_ble_eq_true rfl) (Nat.le_of_ble_eq_true rfl) ?_
              refine am_steps ok_Mo_answers 1 (x' := (192, [some (.ref 22), some (.int u10), some (.int (q1.1 7)), some (.int (q66.1 7))], [.ref 22, .int (q66.1 53), .ref 22], h76, 0, 0)) rfl (Nat.le_of_ble_eq_true rfl) (Nat.le_of_ble_eq_true rfl) ?_
              refine mr_get ok_Mo_answers rfl hM77 (v := .long (q66.2.1 52)) rfl (pc' := 195) rfl (Nat.le_of_ble_eq_true rfl) (Nat.le_of_ble_eq_true rfl) ?_
              obtain ⟨q80, hq81, hd82⟩ := Option.bind_eq_some_iff.mp hd; clear hd; have hd := hd82; clear hd82
              refine ar_cv ok_Mo_answers hk_Mo_ends rfl rfl (As := [.int (q66.1 53), .long (q66.2.1 52)]) (ad := 22) (rest := []) rfl rfl hM77.1 (Nat.le_of_ble_eq_true rfl) (k_Mo_ends (q66.1 53) (q66.2.1 52) (mI q66 7 ((q1.1 7) + 1)) h76 hM77 q80 hq81) (Nat.le_of_ble_eq_true rfl) (Nat.le_of_ble_eq_true rfl) (Nat.le_of_ble_eq_true rfl) (Nat.le_of_ble_eq_true rfl) (pc' := 198) rfl (fun r83 h85 z84 => ?_)
              obtain ⟨rfl, hM86, g88⟩ := z84
              have f87 := mF.tr f78 g88
              show am_S _ _ _ _ _ _ _ (198, [some (.ref 22), some (.int u10), some (.int (q1.1 7)), some (.int (q66.1 7))], [], h85, 0, 0) _
              refine am_steps ok_Mo_answers 2 (x' := (200, [some (.ref 22), some (.int u10), some (.int (q1.1 7)), some (.int (q66.1 7))], [.int (q66.1 7), .ref 22], h85, 0, 0)) rfl (Nat.le_of_ble_eq_true rfl) (Nat.le_of_ble_eq_true rfl) ?_
              refine mr_put ok_Mo_answers rfl hM86 (by decide) rfl (s' := (mI q80 7 (q66.1 7))) (mfs_7 _ _) rfl (pc' := 203) rfl (Nat.le_of_ble_eq_true rfl) (Nat.le_of_ble_eq_true rfl) (fun h89 hM90 g92 => ?_)
              have f91 := mF.tr f87 g92
              cases hd; exact am_ret ok_Mo_answers rfl (Nat.le_of_ble_eq_true rfl) (Nat.le_of_ble_eq_true rfl) ⟨rfl, hM90, f91⟩
            · rw [if_neg hc75] at hd
              cases hd; exact am_ret ok_Mo_answers rfl (Nat.le_of_ble_eq_true rfl) (Nat.le_of_ble_eq_true rfl) ⟨rfl, hM72, f73⟩
          clear hB62; have hd := hA61; clear hA61
          refine am_if (fun hc93 => ?_) (fun hc93 => ?_)
          · rw [if_pos hc93] at hd
            refine am_steps ok_Mo_answers 1 (x' := (147, [some (.ref 22), some (.int u10), some (.int (q1.1 7)), none], [.ref 22], h55, 0, 0)) rfl (Nat.le_of_ble_eq_true rfl) (Nat.le_of_ble_eq_true rfl) ?_
            refine mr_get ok_Mo_answers rfl hM56 (v := .int (q50.1 4)) rfl (pc' := 150) rfl (Nat.le_of_ble_eq_true rfl) (Nat.le_of_ble_eq_true rfl) ?_
            refine am_steps ok_Mo_answers 1 (x' := (if ((q50.1 4) : Int32) = 0 then 165 else 153, [some (.ref 22), some (.int u10), some (.int (q1.1 7)), none], [], h55, 0, 0)) rfl (Nat.le_of_ble_eq_true rfl) (Nat.le_of_ble_eq_true rfl) ?_
            refine am_if (fun hc94 => ?_) (fun hc94 => ?_)
            · rw [if_pos hc94] at hd
              cases hd; exact K60 h55 hM56 f57
            · rw [if_neg hc94] at hd
              refine am_steps ok_Mo_answers 1 (x' := (154, [some (.ref 22), some (.int u10), some (.int (q1.1 7)), none], [.ref 22], h55, 0, 0)) rfl (Nat.le_of_ble_eq_true rfl) (Nat.le_of_ble_eq_true rfl) ?_
              refine mr_get ok_Mo_answers rfl hM56 (v := .int (q50.1 4)) rfl (pc' := 157) rfl (Nat.le_of_ble_eq_true rfl) (Nat.le_of_ble_eq_true rfl) ?_
              refine am_steps ok_Mo_answers 2 (x' := (if ((q50.1 4) : Int32) = 1 then 165 else 161, [some (.ref 22), some (.int u10), some (.int (q1.1 7)), none], [], h55, 0, 0)) rfl (Nat.le_of_ble_eq_true rfl) (Nat.le_of_ble_eq_true rfl) ?_
              refine am_if (fun hc95 => ?_) (fun hc95 => ?_)
              · rw [if_pos hc95] at hd
                cases hd; exact K60 h55 hM56 f57
              · rw [if_neg hc95] at hd
                refine am_steps ok_Mo_answers 1 (x' := (162, [some (.ref 22), some (.int u10), some (.int (q1.1 7)), none], [.ref 22], h55, 0, 0)) rfl (Nat.le_of_ble_eq_true rfl) (Nat.le_of_ble_eq_true rfl) ?_
                obtain ⟨q96, hq97, hd98⟩ := Option.bind_eq_some_iff.mp hd; clear hd; have hd := hd98; clear hd98
                refine ar_cv ok_Mo_answers hk_Mo_settle rfl rfl (As := []) (ad := 22) (rest := []) rfl rfl hM56.1 (Nat.le_of_ble_eq_true rfl) (k_Mo_settle  q50 h55 hM56 q96 hq97) (Nat.le_of_ble_eq_true rfl) (Nat.le_of_ble_eq_true rfl) (Nat.le_of_ble_eq_true rfl) (Nat.le_of_ble_eq_true rfl) (pc' := 165) rfl (fun r99 h101 z100 => ?_)
                obtain ⟨rfl, hM102, g104⟩ := z100
                have f103 := mF.tr f57 g104
                show am_S _ _ _ _ _ _ _ (165, [some (.ref 22), some (.int u10), some (.int (q1.1 7)), none], [], h101, 0, 0) _
                cases hd; exact K60 h101 hM102 f103
          · rw [if_neg hc93] at hd
            refine am_steps ok_Mo_answers 1 (x' := (140, [some (.ref 22), some (.int u10), some (.int (q1.1 7)), none], [.ref 22], h55, 0, 0)) rfl (Nat.le_of_ble_eq_true rfl) (Nat.le_of_ble_eq_true rfl) ?_
            obtain ⟨q105, hq106, hd107⟩ := Option.bind_eq_some_iff.mp hd; clear hd; have hd := hd107; clear hd107
            refine ar_cv ok_Mo_answers hk_Mo_resolve rfl rfl (As := []) (ad := 22) (rest := []) rfl rfl hM56.1 (Nat.le_of_ble_eq_true rfl) (k_Mo_resolve  q50 h55 hM56 q105 hq106) (Nat.le_of_ble_eq_true rfl) (Nat.le_of_ble_eq_true rfl) (Nat.le_of_ble_eq_true rfl) (Nat.le_of_ble_eq_true rfl) (pc' := 143) rfl (fun r108 h110 z109 => ?_)
            obtain ⟨rfl, hM111, g113⟩ := z109
            have f112 := mF.tr f57 g113
            show am_S _ _ _ _ _ _ _ (143, [some (.ref 22), some (.int u10), some (.int (q1.1 7)), none], [], h110, 0, 0) _
            refine am_steps ok_Mo_answers 1 (x' := (165, [some (.ref 22), some (.int u10), some (.int (q1.1 7)), none], [], h110, 0, 0)) rfl (Nat.le_of_ble_eq_true rfl) (Nat.le_of_ble_eq_true rfl) ?_
            cases hd; exact K60 h110 hM111 f112
        clear hB37; have hd := hA36; clear hA36
        refine am_if (fun hc114 => ?_) (fun hc114 => ?_)
        · rw [if_pos hc114] at hd
          cases hd; exact K35 h30 hM31 f32
        · rw [if_neg hc114] at hd
          refine am_steps ok_Mo_answers 6 (x' := (117, [some (.ref 22), some (.int u10), some (.int (q1.1 7)), none], [.int 46, .int 46, .int 46, .int 46, .int 32, .ref 22], h30, 0, 0)) rfl (Nat.le_of_ble_eq_true rfl) (Nat.le_of_ble_eq_true rfl) ?_
          obtain ⟨q115, hq116, hd117⟩ := Option.bind_eq_some_iff.mp hd; clear hd; have hd := hd117; clear hd117
          refine ar_cv ok_Mo_answers hk_Mo_putWord rfl rfl (As := [.int 32, .int 46, .int 46, .int 46, .int 46]) (ad := 22) (rest := []) rfl rfl hM31.1 (Nat.le_of_ble_eq_true rfl) (k_Mo_putWord 32 46 46 46 46 (mI (mL (mI q1 53 u14) 52 u22) 54 0) h30 hM31 q115 hq116) (Nat.le_of_ble_eq_true rfl) (Nat.le_of_ble_eq_true rfl) (Nat.le_of_ble_eq_true rfl) (Nat.le_of_ble_eq_true rfl) (pc' := 120) rfl (fun r118 h120 z119 => ?_)
          obtain ⟨rfl, hM121, g123⟩ := z119
          have f122 := mF.tr f32 g123
          show am_S _ _ _ _ _ _ _ (120, [some (.ref 22), some (.int u10), some (.int (q1.1 7)), none], [], h120, 0, 0) _
          cases hd; exact K35 h120 hM121 f122
      clear hB25; have hd := hA24; clear hA24
      refine am_if (fun hc124 => ?_) (fun hc124 => ?_)
      · rw [if_pos hc124] at hd
        refine am_steps ok_Mo_answers 3 (x' := (86, [some (.ref 22), some (.int u10), none, none], [.int 8, .int 7, .ref 22, .ref 22], h18, 0, 0)) rfl (Nat.le_of_ble_eq_true rfl) (Nat.le_of_ble_eq_true rfl) ?_
        obtain ⟨q125, hq126, hd127⟩ := Option.bind_eq_some_iff.mp hd; clear hd; have hd := hd127; clear hd127
        refine ar_cv ok_Mo_answers hk_Mo_packed rfl rfl (As := [.int 7, .int 8]) (ad := 22) (rest := [.ref 22]) rfl rfl hM19.1 (Nat.le_of_ble_eq_true rfl) (k_Mo_packed 7 8 (mI q1 53 u14) h18 hM19 q125 hq126) (Nat.le_of_ble_eq_true rfl) (Nat.le_of_ble_eq_true rfl) (Nat.le_of_ble_eq_true rfl) (Nat.le_of_ble_eq_true rfl) (pc' := 89) rfl (fun r128 h130 z129 => ?_)
        obtain ⟨z134, z135⟩ := z129; subst z134; rw [z135]
        show am_S _ _ _ _ _ _ _ (89, [some (.ref 22), some (.int u10), none, none], [.long q125, .ref 22], h18, 0, 0) _
        cases hd; exact K23 
      · rw [if_neg hc124] at hd
        refine am_steps ok_Mo_answers 3 (x' := (75, [some (.ref 22), some (.int u10), none, none], [.int 8, .int 19, .ref 22, .ref 22], h18, 0, 0)) rfl (Nat.le_of_ble_eq_true rfl) (Nat.le_of_ble_eq_true rfl) ?_
        obtain ⟨q136, hq137, hd138⟩ := Option.bind_eq_some_iff.mp hd; clear hd; have hd := hd138; clear hd138
        refine ar_cv ok_Mo_answers hk_Mo_packed rfl rfl (As := [.int 19, .int 8]) (ad := 22) (rest := [.ref 22]) rfl rfl hM19.1 (Nat.le_of_ble_eq_true rfl) (k_Mo_packed 19 8 (mI q1 53 u14) h18 hM19 q136 hq137) (Nat.le_of_ble_eq_true rfl) (Nat.le_of_ble_eq_true rfl) (Nat.le_of_ble_eq_true rfl) (Nat.le_of_ble_eq_true rfl) (pc' := 78) rfl (fun r139 h141 z140 => ?_)
        obtain ⟨z145, z146⟩ := z140; subst z145; rw [z146]
        show am_S _ _ _ _ _ _ _ (78, [some (.ref 22), some (.int u10), none, none], [.long q136, .ref 22], h18, 0, 0) _
        refine am_steps ok_Mo_answers 1 (x' := (89, [some (.ref 22), some (.int u10), none, none], [.long q136, .ref 22], h18, 0, 0)) rfl (Nat.le_of_ble_eq_true rfl) (Nat.le_of_ble_eq_true rfl) ?_
        cases hd; exact K23 
    clear hB17; have hd := hA16; clear hA16
    refine am_if (fun hc147 => ?_) (fun hc147 => ?_)
    · rw [if_pos hc147] at hd
      refine am_steps ok_Mo_answers 1 (x' := (54, [some (.ref 22), some (.int u10), none, none], [.ref 22, .ref 22], h6, 0, 0)) rfl (Nat.le_of_ble_eq_true rfl) (Nat.le_of_ble_eq_true rfl) ?_
      refine mr_get ok_Mo_answers rfl hM7 (v := .int (q1.1 5)) rfl (pc' := 57) rfl (Nat.le_of_ble_eq_true rfl) (Nat.le_of_ble_eq_true rfl) ?_
      cases hd; exact K15 
    · rw [if_neg hc147] at hd
      refine am_steps ok_Mo_answers 2 (x' := (47, [some (.ref 22), some (.int u10), none, none], [.int 15, .ref 22, .ref 22], h6, 0, 0)) rfl (Nat.le_of_ble_eq_true rfl) (Nat.le_of_ble_eq_true rfl) ?_
      obtain ⟨q148, hq149, hd150⟩ := Option.bind_eq_some_iff.mp hd; clear hd; have hd := hd150; clear hd150
      refine ar_cv ok_Mo_answers hk_Mo_memberAt rfl rfl (As := [.int 15]) (ad := 22) (rest := [.ref 22]) rfl rfl hM7.1 (Nat.le_of_ble_eq_true rfl) (k_Mo_memberAt 15 q1 h6 hM7 q148 hq149) (Nat.le_of_ble_eq_true rfl) (Nat.le_of_ble_eq_true rfl) (Nat.le_of_ble_eq_true rfl) (Nat.le_of_ble_eq_true rfl) (pc' := 50) rfl (fun r151 h153 z152 => ?_)
      obtain ⟨z157, z158⟩ := z152; subst z157; rw [z158]
      show am_S _ _ _ _ _ _ _ (50, [some (.ref 22), some (.int u10), none, none], [.int q148, .ref 22], h6, 0, 0) _
      refine am_steps ok_Mo_answers 1 (x' := (57, [some (.ref 22), some (.int u10), none, none], [.int q148, .ref 22], h6, 0, 0)) rfl (Nat.le_of_ble_eq_true rfl) (Nat.le_of_ble_eq_true rfl) ?_
      cases hd; exact K15 
  clear hB13; have hd := hA12; clear hA12
  refine am_if (fun hc159 => ?_) (fun hc159 => ?_)
  · rw [if_pos hc159] at hd
    refine am_steps ok_Mo_answers 2 (x' := (33, [some (.ref 22), none, none, none], [.int 1], h6, 0, 0)) rfl (Nat.le_of_ble_eq_true rfl) (Nat.le_of_ble_eq_true rfl) ?_
    cases hd; exact K11 
  · rw [if_neg hc159] at hd
    refine am_steps ok_Mo_answers 1 (x' := (20, [some (.ref 22), none, none, none], [.ref 22], h6, 0, 0)) rfl (Nat.le_of_ble_eq_true rfl) (Nat.le_of_ble_eq_true rfl) ?_
    refine mr_get ok_Mo_answers rfl hM7 (v := .int (q1.1 4)) rfl (pc' := 23) rfl (Nat.le_of_ble_eq_true rfl) (Nat.le_of_ble_eq_true rfl) ?_
    refine am_steps ok_Mo_answers 2 (x' := (if ¬ ((q1.1 4) : Int32) = 6 then 32 else 28, [some (.ref 22), none, none, none], [], h6, 0, 0)) rfl (Nat.le_of_ble_eq_true rfl) (Nat.le_of_ble_eq_true rfl) ?_
    refine am_if (fun hc160 => ?_) (fun hc160 => ?_)
    · rw [if_pos hc160] at hd
      refine am_steps ok_Mo_answers 1 (x' := (33, [some (.ref 22), none, none, none], [.int 0], h6, 0, 0)) rfl (Nat.le_of_ble_eq_true rfl) (Nat.le_of_ble_eq_true rfl) ?_
      cases hd; exact K11 
    · rw [if_neg hc160] at hd
      refine am_steps ok_Mo_answers 2 (x' := (33, [some (.ref 22), none, none, none], [.int 1], h6, 0, 0)) rfl (Nat.le_of_ble_eq_true rfl) (Nat.le_of_ble_eq_true rfl) ?_
      cases hd; exact K11 
def d_Mo_goesDown  (s : mS) : Option (Int32 × mS) := (d_Mo_silence  (mI (mI s 57 0) 58 (-1))).bind fun q9 => (some (0, q9))
set_option maxHeartbeats 4000000 in
set_option maxRecDepth 100000 in
theorem k_Mo_goesDown  (s : mS) (h0 : am_H) (hM : RM s h0) (q : Int32 × mS) (hd : d_Mo_goesDown  s = some q) : am_Me am_Pr none 1 20 0 0 86 [.ref 22] h0 (mQr (.int q.1) q.2 h0) := by
  refine am_enter (d := hd_Mo_goesDown) rfl (by decide +kernel) (Nat.le_of_ble_eq_true rfl) ?_
  show am_S _ _ _ _ _ _ _ (0, [some (.ref 22)], [], h0, 0, 0) _
  unfold d_Mo_goesDown at hd
  refine am_steps ok_Mo_goesDown 2 (x' := (2, [some (.ref 22)], [.int 0, .ref 22], h0, 0, 0)) rfl (Nat.le_of_ble_eq_true rfl) (Nat.le_of_ble_eq_true rfl) ?_
  refine mr_put ok_Mo_goesDown rfl hM (by decide) rfl (s' := (mI s 57 0)) (mfs_57 _ _) rfl (pc' := 5) rfl (Nat.le_of_ble_eq_true rfl) (Nat.le_of_ble_eq_true rfl) (fun h1 hM2 g4 => ?_)
  have f3 := mF.tr (mF.rf) g4
  refine am_steps ok_Mo_goesDown 2 (x' := (7, [some (.ref 22)], [.int (-1), .ref 22], h1, 0, 0)) rfl (Nat.le_of_ble_eq_true rfl) (Nat.le_of_ble_eq_true rfl) ?_
  refine mr_put ok_Mo_goesDown rfl hM2 (by decide) rfl (s' := (mI (mI s 57 0) 58 (-1))) (mfs_58 _ _) rfl (pc' := 10) rfl (Nat.le_of_ble_eq_true rfl) (Nat.le_of_ble_eq_true rfl) (fun h5 hM6 g8 => ?_)
  have f7 := mF.tr f3 g8
  refine am_steps ok_Mo_goesDown 1 (x' := (11, [some (.ref 22)], [.ref 22], h5, 0, 0)) rfl (Nat.le_of_ble_eq_true rfl) (Nat.le_of_ble_eq_true rfl) ?_
  obtain ⟨q9, hq10, hd11⟩ := Option.bind_eq_some_iff.mp hd; clear hd; have hd := hd11; clear hd11
  refine ar_cv ok_Mo_goesDown hk_Mo_silence rfl rfl (As := []) (ad := 22) (rest := []) rfl rfl hM6.1 (Nat.le_of_ble_eq_true rfl) (k_Mo_silence  (mI (mI s 57 0) 58 (-1)) h5 hM6 q9 hq10) (Nat.le_of_ble_eq_true rfl) (Nat.le_of_ble_eq_true rfl) (Nat.le_of_ble_eq_true rfl) (Nat.le_of_ble_eq_true rfl) (pc' := 14) rfl (fun r12 h14 z13 => ?_)
  obtain ⟨rfl, hM15, g17⟩ := z13
  have f16 := mF.tr f7 g17
  show am_S _ _ _ _ _ _ _ (14, [some (.ref 22)], [], h14, 0, 0) _
  refine am_steps ok_Mo_goesDown 1 (x' := (15, [some (.ref 22)], [.int 0], h14, 0, 0)) rfl (Nat.le_of_ble_eq_true rfl) (Nat.le_of_ble_eq_true rfl) ?_
  cases hd; exact am_ret ok_Mo_goesDown rfl (Nat.le_of_ble_eq_true rfl) (Nat.le_of_ble_eq_true rfl) ⟨rfl, hM15, f16⟩
def d_Mo_write  (s : mS) : Option (Int32 × mS) := if ¬ ((s.1 58) : Int32) = 0 then ((if ((s.1 58) : Int32) ≤ 0 then (some 0) else (some 1)).bind fun (u2 : Int32) => (some (1, (mI (mI s 58 ((s.1 58) - u2)) 59 ((s.1 59) + 1))))) else ((d_Mo_goesDown  s).bind fun q15 => (if q15.1 = 0 ∨ q15.1 = 1 then some (q15.1, q15.2) else none))
set_option maxHeartbeats 4000000 in
set_option maxRecDepth 100000 in
theorem k_Mo_write  (s : mS) (h0 : am_H) (hM : RM s h0) (q : Int32 × mS) (hd : d_Mo_write  s = some q) : am_Me am_Pr none 2 40 0 0 87 [.ref 22] h0 (mQr (.int q.1) q.2 h0) := by
  refine am_enter (d := hd_Mo_write) rfl (by decide +kernel) (Nat.le_of_ble_eq_true rfl) ?_
  show am_S _ _ _ _ _ _ _ (0, [some (.ref 22)], [], h0, 0, 0) _
  unfold d_Mo_write at hd
  refine am_steps ok_Mo_write 1 (x' := (1, [some (.ref 22)], [.ref 22], h0, 0, 0)) rfl (Nat.le_of_ble_eq_true rfl) (Nat.le_of_ble_eq_true rfl) ?_
  refine mr_get ok_Mo_write rfl hM (v := .int (s.1 58)) rfl (pc' := 4) rfl (Nat.le_of_ble_eq_true rfl) (Nat.le_of_ble_eq_true rfl) ?_
  refine am_steps ok_Mo_write 1 (x' := (if ¬ ((s.1 58) : Int32) = 0 then 12 else 7, [some (.ref 22)], [], h0, 0, 0)) rfl (Nat.le_of_ble_eq_true rfl) (Nat.le_of_ble_eq_true rfl) ?_
  refine am_if (fun hc1 => ?_) (fun hc1 => ?_)
  · rw [if_pos hc1] at hd
    refine am_steps ok_Mo_write 2 (x' := (14, [some (.ref 22)], [.ref 22, .ref 22], h0, 0, 0)) rfl (Nat.le_of_ble_eq_true rfl) (Nat.le_of_ble_eq_true rfl) ?_
    refine mr_get ok_Mo_write rfl hM (v := .int (s.1 58)) rfl (pc' := 17) rfl (Nat.le_of_ble_eq_true rfl) (Nat.le_of_ble_eq_true rfl) ?_
    refine am_steps ok_Mo_write 1 (x' := (18, [some (.ref 22)], [.ref 22, .int (s.1 58), .ref 22], h0, 0, 0)) rfl (Nat.le_of_ble_eq_true rfl) (Nat.le_of_ble_eq_true rfl) ?_
    refine mr_get ok_Mo_write rfl hM (v := .int (s.1 58)) rfl (pc' := 21) rfl (Nat.le_of_ble_eq_true rfl) (Nat.le_of_ble_eq_true rfl) ?_
    refine am_steps ok_Mo_write 1 (x' := (if ((s.1 58) : Int32) ≤ 0 then 28 else 24, [some (.ref 22)], [.int (s.1 58), .ref 22], h0, 0, 0)) rfl (Nat.le_of_ble_eq_true rfl) (Nat.le_of_ble_eq_true rfl) ?_
    obtain ⟨u2, hA4, hB5⟩ := Option.bind_eq_some_iff.mp hd; clear hd
    have K3 : am_S am_Pr none 2 40 0 0 87 (29, [some (.ref 22)], [.int u2, .int (s.1 58), .ref 22], h0, 0, 0) (mQr (.int q.1) q.2 h0) := by
      have hd := hB5
      refine am_steps ok_Mo_write 1 (x' := (30, [some (.ref 22)], [.int ((s.1 58) - u2), .ref 22], h0, 0, 0)) rfl (Nat.le_of_ble_eq_true rfl) (Nat.le_of_ble_eq_true rfl) ?_
      refine mr_put ok_Mo_write rfl hM (by decide) rfl (s' := (mI s 58 ((s.1 58) - u2))) (mfs_58 _ _) rfl (pc' := 33) rfl (Nat.le_of_ble_eq_true rfl) (Nat.le_of_ble_eq_true rfl) (fun h6 hM7 g9 => ?_)
      have f8 := mF.tr (mF.rf) g9
      refine am_steps ok_Mo_write 2 (x' := (35, [some (.ref 22)], [.ref 22, .ref 22], h6, 0, 0)) rfl (Nat.le_of_ble_eq_true rfl) (Nat.le_of_ble_eq_true rfl) ?_
      refine mr_get ok_Mo_write rfl hM7 (v := .int (s.1 59)) rfl (pc' := 38) rfl (Nat.le_of_ble_eq_true rfl) (Nat.le_of_ble_eq_true rfl) ?_
      refine am_steps ok_Mo_write 2 (x' := (40, [some (.ref 22)], [.int ((s.1 59) + 1), .ref 22], h6, 0, 0)) rfl (Nat.le_of_ble_eq_true rfl) (Nat.le_of_ble_eq_true rfl) ?_
      refine mr_put ok_Mo_write rfl hM7 (by decide) rfl (s' := (mI (mI s 58 ((s.1 58) - u2)) 59 ((s.1 59) + 1))) (mfs_59 _ _) rfl (pc' := 43) rfl (Nat.le_of_ble_eq_true rfl) (Nat.le_of_ble_eq_true rfl) (fun h10 hM11 g13 => ?_)
      have f12 := mF.tr f8 g13
      refine am_steps ok_Mo_write 1 (x' := (44, [some (.ref 22)], [.int 1], h10, 0, 0)) rfl (Nat.le_of_ble_eq_true rfl) (Nat.le_of_ble_eq_true rfl) ?_
      cases hd; exact am_ret ok_Mo_write rfl (Nat.le_of_ble_eq_true rfl) (Nat.le_of_ble_eq_true rfl) ⟨rfl, hM11, f12⟩
    clear hB5; have hd := hA4; clear hA4
    refine am_if (fun hc14 => ?_) (fun hc14 => ?_)
    · rw [if_pos hc14] at hd
      refine am_steps ok_Mo_write 1 (x' := (29, [some (.ref 22)], [.int 0, .int (s.1 58), .ref 22], h0, 0, 0)) rfl (Nat.le_of_ble_eq_true rfl) (Nat.le_of_ble_eq_true rfl) ?_
      cases hd; exact K3 
    · rw [if_neg hc14] at hd
      refine am_steps ok_Mo_write 2 (x' := (29, [some (.ref 22)], [.int 1, .int (s.1 58), .ref 22], h0, 0, 0)) rfl (Nat.le_of_ble_eq_true rfl) (Nat.le_of_ble_eq_true rfl) ?_
      cases hd; exact K3 
  · rw [if_neg hc1] at hd
    refine am_steps ok_Mo_write 1 (x' := (8, [some (.ref 22)], [.ref 22], h0, 0, 0)) rfl (Nat.le_of_ble_eq_true rfl) (Nat.le_of_ble_eq_true rfl) ?_
    obtain ⟨q15, hq16, hd17⟩ := Option.bind_eq_some_iff.mp hd; clear hd; have hd := hd17; clear hd17
    refine ar_cv ok_Mo_write hk_Mo_goesDown rfl rfl (As := []) (ad := 22) (rest := []) rfl rfl hM.1 (Nat.le_of_ble_eq_true rfl) (k_Mo_goesDown  s h0 hM q15 hq16) (Nat.le_of_ble_eq_true rfl) (Nat.le_of_ble_eq_true rfl) (Nat.le_of_ble_eq_true rfl) (Nat.le_of_ble_eq_true rfl) (pc' := 11) rfl (fun r18 h20 z19 => ?_)
    obtain ⟨rfl, hM21, g23⟩ := z19
    have f22 := mF.tr (mF.rf) g23
    show am_S _ _ _ _ _ _ _ (11, [some (.ref 22)], [.int q15.1], h20, 0, 0) _
    split at hd
    · rename_i hz; cases hd; exact am_ret ok_Mo_write (if_pos hz) (Nat.le_of_ble_eq_true rfl) (Nat.le_of_ble_eq_true rfl) ⟨rfl, hM21, f22⟩
    · cases hd
def l_Mo_record_9 : Nat → Int32 → Int32 → mS → Option (Int32 × mS)
  | 0, _, _, _ => none
  | fu + 1, v1, v2, s => if (((((s.1 60) + v1) - 1) / 500) : Int32) < v2 then (some (1, (mI s 60 ((s.1 60) + v1)))) else ((d_Mo_write  s).bind fun q6 => (if ¬ (q6.1 : Int32) = 0 then (l_Mo_record_9 fu v1 (v2 + 1) q6.2) else (some (0, q6.2))))
set_option maxHeartbeats 4000000 in
set_option maxRecDepth 100000 in
theorem L_Mo_record_9 (h0 : am_H) : ∀ (fu : Nat) (v1 : Int32) (v2 : Int32) (s : mS) (h : am_H), RM s h → mF h0 h → ∀ q : Int32 × mS, l_Mo_record_9 fu v1 v2 s = some q → am_S am_Pr none 3 60 0 0 88 (9, [some (.ref 22), some (.int v1), some (.int v2)], [], h, 0, 0) (mQr (.int q.1) q.2 h0) := by
  intro fu
  induction fu with
  | zero => intro v1 v2 s h hM f q hd; cases hd
  | succ fu ih =>
    intro v1 v2 s h hM f q hd
    unfold l_Mo_record_9 at hd
    refine am_steps ok_Mo_record 2 (x' := (11, [some (.ref 22), some (.int v1), some (.int v2)], [.ref 22, .int v2], h, 0, 0)) rfl (Nat.le_of_ble_eq_true rfl) (Nat.le_of_ble_eq_true rfl) ?_
    refine mr_get ok_Mo_record rfl hM (v := .int (s.1 60)) rfl (pc' := 14) rfl (Nat.le_of_ble_eq_true rfl) (Nat.le_of_ble_eq_true rfl) ?_
    refine am_steps ok_Mo_record 5 (x' := (21, [some (.ref 22), some (.int v1), some (.int v2)], [.int 500, .int (((s.1 60) + v1) - 1), .int v2], h, 0, 0)) rfl (Nat.le_of_ble_eq_true rfl) (Nat.le_of_ble_eq_true rfl) ?_
    refine ar_idiv ok_Mo_record rfl (by decide +kernel) (w := ((((s.1 60) + v1) - 1) / 500)) rfl (pc' := 22) rfl (Nat.le_of_ble_eq_true rfl) (Nat.le_of_ble_eq_true rfl) ?_
    refine am_steps ok_Mo_record 1 (x' := (if (((((s.1 60) + v1) - 1) / 500) : Int32) < v2 then 40 else 25, [some (.ref 22), some (.int v1), some (.int v2)], [], h, 0, 0)) rfl (Nat.le_of_ble_eq_true rfl) (Nat.le_of_ble_eq_true rfl) ?_
    refine am_if (fun hc1 => ?_) (fun hc1 => ?_)
    · rw [if_pos hc1] at hd
      refine am_steps ok_Mo_record 2 (x' := (42, [some (.ref 22), some (.int v1), some (.int v2)], [.ref 22, .ref 22], h, 0, 0)) rfl (Nat.le_of_ble_eq_true rfl) (Nat.le_of_ble_eq_true rfl) ?_
      refine mr_get ok_Mo_record rfl hM (v := .int (s.1 60)) rfl (pc' := 45) rfl (Nat.le_of_ble_eq_true rfl) (Nat.le_of_ble_eq_true rfl) ?_
      refine am_steps ok_Mo_record 2 (x' := (47, [some (.ref 22), some (.int v1), some (.int v2)], [.int ((s.1 60) + v1), .ref 22], h, 0, 0)) rfl (Nat.le_of_ble_eq_true rfl) (Nat.le_of_ble_eq_true rfl) ?_
      refine mr_put ok_Mo_record rfl hM (by decide) rfl (s' := (mI s 60 ((s.1 60) + v1))) (mfs_60 _ _) rfl (pc' := 50) rfl (Nat.le_of_ble_eq_true rfl) (Nat.le_of_ble_eq_true rfl) (fun h2 hM3 g5 => ?_)
      have f4 := mF.tr f g5
      refine am_steps ok_Mo_record 1 (x' := (51, [some (.ref 22), some (.int v1), some (.int v2)], [.int 1], h2, 0, 0)) rfl (Nat.le_of_ble_eq_true rfl) (Nat.le_of_ble_eq_true rfl) ?_
      cases hd; exact am_ret ok_Mo_record rfl (Nat.le_of_ble_eq_true rfl) (Nat.le_of_ble_eq_true rfl) ⟨rfl, hM3, f4⟩
    · rw [if_neg hc1] at hd
      refine am_steps ok_Mo_record 1 (x' := (26, [some (.ref 22), some (.int v1), some (.int v2)], [.ref 22], h, 0, 0)) rfl (Nat.le_of_ble_eq_true rfl) (Nat.le_of_ble_eq_true rfl) ?_
      obtain ⟨q6, hq7, hd8⟩ := Option.bind_eq_some_iff.mp hd; clear hd; have hd := hd8; clear hd8
      refine ar_cv ok_Mo_record hk_Mo_write rfl rfl (As := []) (ad := 22) (rest := []) rfl rfl hM.1 (Nat.le_of_ble_eq_true rfl) (k_Mo_write  s h hM q6 hq7) (Nat.le_of_ble_eq_true rfl) (Nat.le_of_ble_eq_true rfl) (Nat.le_of_ble_eq_true rfl) (Nat.le_of_ble_eq_true rfl) (pc' := 29) rfl (fun r9 h11 z10 => ?_)
      obtain ⟨rfl, hM12, g14⟩ := z10
      have f13 := mF.tr f g14
      show am_S _ _ _ _ _ _ _ (29, [some (.ref 22), some (.int v1), some (.int v2)], [.int q6.1], h11, 0, 0) _
      refine am_steps ok_Mo_record 1 (x' := (if ¬ (q6.1 : Int32) = 0 then 34 else 32, [some (.ref 22), some (.int v1), some (.int v2)], [], h11, 0, 0)) rfl (Nat.le_of_ble_eq_true rfl) (Nat.le_of_ble_eq_true rfl) ?_
      refine am_if (fun hc15 => ?_) (fun hc15 => ?_)
      · rw [if_pos hc15] at hd
        refine am_steps ok_Mo_record 2 (x' := (9, [some (.ref 22), some (.int v1), some (.int (v2 + 1))], [], h11, 0, 0)) rfl (Nat.le_of_ble_eq_true rfl) (Nat.le_of_ble_eq_true rfl) ?_
        exact ih v1 (v2 + 1) q6.2 h11 hM12 f13 q hd
      · rw [if_neg hc15] at hd
        refine am_steps ok_Mo_record 1 (x' := (33, [some (.ref 22), some (.int v1), some (.int v2)], [.int 0], h11, 0, 0)) rfl (Nat.le_of_ble_eq_true rfl) (Nat.le_of_ble_eq_true rfl) ?_
        cases hd; exact am_ret ok_Mo_record rfl (Nat.le_of_ble_eq_true rfl) (Nat.le_of_ble_eq_true rfl) ⟨rfl, hM12, f13⟩
def d_Mo_record (a : Int32) (s : mS) : Option (Int32 × mS) := l_Mo_record_9 100000 a ((s.1 60) / 500) s
set_option maxHeartbeats 4000000 in
set_option maxRecDepth 100000 in
theorem k_Mo_record (a : Int32) (s : mS) (h0 : am_H) (hM : RM s h0) (q : Int32 × mS) (hd : d_Mo_record a s = some q) : am_Me am_Pr none 3 60 0 0 88 [.ref 22, .int a] h0 (mQr (.int q.1) q.2 h0) := by
  refine am_enter (d := hd_Mo_record) rfl (by decide +kernel) (Nat.le_of_ble_eq_true rfl) ?_
  show am_S _ _ _ _ _ _ _ (0, [some (.ref 22), some (.int a), none], [], h0, 0, 0) _
  unfold d_Mo_record at hd
  refine am_steps ok_Mo_record 1 (x' := (1, [some (.ref 22), some (.int a), none], [.ref 22], h0, 0, 0)) rfl (Nat.le_of_ble_eq_true rfl) (Nat.le_of_ble_eq_true rfl) ?_
  refine mr_get ok_Mo_record rfl hM (v := .int (s.1 60)) rfl (pc' := 4) rfl (Nat.le_of_ble_eq_true rfl) (Nat.le_of_ble_eq_true rfl) ?_
  refine am_steps ok_Mo_record 1 (x' := (7, [some (.ref 22), some (.int a), none], [.int 500, .int (s.1 60)], h0, 0, 0)) rfl (Nat.le_of_ble_eq_true rfl) (Nat.le_of_ble_eq_true rfl) ?_
  refine ar_idiv ok_Mo_record rfl (by decide +kernel) (w := ((s.1 60) / 500)) rfl (pc' := 8) rfl (Nat.le_of_ble_eq_true rfl) (Nat.le_of_ble_eq_true rfl) ?_
  refine am_steps ok_Mo_record 1 (x' := (9, [some (.ref 22), some (.int a), some (.int ((s.1 60) / 500))], [], h0, 0, 0)) rfl (Nat.le_of_ble_eq_true rfl) (Nat.le_of_ble_eq_true rfl) ?_
  exact L_Mo_record_9 h0 100000 a ((s.1 60) / 500) s h0 hM (mF.rf) q hd
