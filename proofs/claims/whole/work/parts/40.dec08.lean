/-! Methods of the reference as functions of its state. -/
def l_Mo_done_8 : Nat → Int32 → Int32 → Int32 → mS → Option (mS)
  | 0, _, _, _, _ => none
  | fu + 1, v1, v2, v3, s => if (v2 : Int32) ≤ v3 then (some s) else ((am_ix v3 16).bind fun j11 => ((if (16384 : Int32) ≤ (s.2.2.1 57 j11) then (some s) else ((d_Mo_net v1 (s.2.2.1 57 j11) s).bind fun q22 => ((d_Mo_move (s.2.2.1 57 j11) q22 s).bind fun q33 => (some q33)))).bind fun (u14 : mS) => (l_Mo_done_8 fu v1 v2 (v3 + 1) u14)))
set_option maxHeartbeats 4000000 in
set_option maxRecDepth 100000 in
theorem L_Mo_done_8 {Q : Option Value → am_H → Prop} (h0 : am_H) : ∀ (fu : Nat) (v1 : Int32) (v2 : Int32) (v3 : Int32) (s : mS) (h : am_H), RM s h → mF h0 h → ∀ q : mS, l_Mo_done_8 fu v1 v2 v3 s = some q → (∀ h' : am_H, RM q h' → mF h0 h' → am_S am_Pr none 2 48 0 0 66 (52, [some (.ref 22), some (.int v1), some (.int v2), none], [], h', 0, 0) Q) → am_S am_Pr none 2 48 0 0 66 (8, [some (.ref 22), some (.int v1), some (.int v2), some (.int v3)], [], h, 0, 0) Q := by
  intro fu
  induction fu with
  | zero => intro v1 v2 v3 s h hM f q hd; cases hd
  | succ fu ih =>
    intro v1 v2 v3 s h hM f q hd kk
    unfold l_Mo_done_8 at hd
    refine am_steps ok_Mo_done 3 (x' := (if (v2 : Int32) ≤ v3 then 52 else 13, [some (.ref 22), some (.int v1), some (.int v2), some (.int v3)], [], h, 0, 0)) rfl (Nat.le_of_ble_eq_true rfl) (Nat.le_of_ble_eq_true rfl) ?_
    refine am_if (fun hc10 => ?_) (fun hc10 => ?_)
    · rw [if_pos hc10] at hd
      refine am_drop 3 ?_
      cases hd; exact kk h hM f
    · rw [if_neg hc10] at hd
      refine am_steps ok_Mo_done 1 (x' := (14, [some (.ref 22), some (.int v1), some (.int v2), some (.int v3)], [.ref 22], h, 0, 0)) rfl (Nat.le_of_ble_eq_true rfl) (Nat.le_of_ble_eq_true rfl) ?_
      refine mr_get ok_Mo_done rfl hM (v := .ref 57) rfl (pc' := 17) rfl (Nat.le_of_ble_eq_true rfl) (Nat.le_of_ble_eq_true rfl) ?_
      refine am_steps ok_Mo_done 1 (x' := (18, [some (.ref 22), some (.int v1), some (.int v2), some (.int v3)], [.int v3, .ref 57], h, 0, 0)) rfl (Nat.le_of_ble_eq_true rfl) (Nat.le_of_ble_eq_true rfl) ?_
      obtain ⟨j11, hx12, hd13⟩ := Option.bind_eq_some_iff.mp hd; clear hd; have hd := hd13; clear hd13
      refine mr_iald ok_Mo_done rfl hM (N := 16) (by decide) hx12 (pc' := 19) rfl (Nat.le_of_ble_eq_true rfl) (Nat.le_of_ble_eq_true rfl) ?_
      refine am_steps ok_Mo_done 2 (x' := (if (16384 : Int32) ≤ (s.2.2.1 57 j11) then 46 else 25, [some (.ref 22), some (.int v1), some (.int v2), some (.int v3)], [], h, 0, 0)) rfl (Nat.le_of_ble_eq_true rfl) (Nat.le_of_ble_eq_true rfl) ?_
      obtain ⟨u14, hA16, hB17⟩ := Option.bind_eq_some_iff.mp hd; clear hd
      have K15 : ∀ h' : am_H, RM u14 h' → mF h0 h' → am_S am_Pr none 2 48 0 0 66 (46, [some (.ref 22), some (.int v1), some (.int v2), some (.int v3)], [], h', 0, 0) Q := by
        have hd := hB17
        intro h18 hM19 f20
        refine am_steps ok_Mo_done 2 (x' := (8, [some (.ref 22), some (.int v1), some (.int v2), some (.int (v3 + 1))], [], h18, 0, 0)) rfl (Nat.le_of_ble_eq_true rfl) (Nat.le_of_ble_eq_true rfl) ?_
        exact ih v1 v2 (v3 + 1) u14 h18 hM19 f20 q hd kk
      clear hB17; have hd := hA16; clear hA16
      refine am_if (fun hc21 => ?_) (fun hc21 => ?_)
      · rw [if_pos hc21] at hd
        cases hd; exact K15 h hM f
      · rw [if_neg hc21] at hd
        refine am_steps ok_Mo_done 2 (x' := (27, [some (.ref 22), some (.int v1), some (.int v2), some (.int v3)], [.ref 22, .ref 22], h, 0, 0)) rfl (Nat.le_of_ble_eq_true rfl) (Nat.le_of_ble_eq_true rfl) ?_
        refine mr_get ok_Mo_done rfl hM (v := .ref 57) rfl (pc' := 30) rfl (Nat.le_of_ble_eq_true rfl) (Nat.le_of_ble_eq_true rfl) ?_
        refine am_steps ok_Mo_done 1 (x' := (31, [some (.ref 22), some (.int v1), some (.int v2), some (.int v3)], [.int v3, .ref 57, .ref 22], h, 0, 0)) rfl (Nat.le_of_ble_eq_true rfl) (Nat.le_of_ble_eq_true rfl) ?_
        refine mr_iald ok_Mo_done rfl hM (N := 16) (by decide) hx12 (pc' := 32) rfl (Nat.le_of_ble_eq_true rfl) (Nat.le_of_ble_eq_true rfl) ?_
        refine am_steps ok_Mo_done 3 (x' := (35, [some (.ref 22), some (.int v1), some (.int v2), some (.int v3)], [.ref 22, .int v1, .ref 22, .int (s.2.2.1 57 j11), .ref 22], h, 0, 0)) rfl (Nat.le_of_ble_eq_true rfl) (Nat.le_of_ble_eq_true rfl) ?_
        refine mr_get ok_Mo_done rfl hM (v := .ref 57) rfl (pc' := 38) rfl (Nat.le_of_ble_eq_true rfl) (Nat.le_of_ble_eq_true rfl) ?_
        refine am_steps ok_Mo_done 1 (x' := (39, [some (.ref 22), some (.int v1), some (.int v2), some (.int v3)], [.int v3, .ref 57, .int v1, .ref 22, .int (s.2.2.1 57 j11), .ref 22], h, 0, 0)) rfl (Nat.le_of_ble_eq_true rfl) (Nat.le_of_ble_eq_true rfl) ?_
        refine mr_iald ok_Mo_done rfl hM (N := 16) (by decide) hx12 (pc' := 40) rfl (Nat.le_of_ble_eq_true rfl) (Nat.le_of_ble_eq_true rfl) ?_
        obtain ⟨q22, hq23, hd24⟩ := Option.bind_eq_some_iff.mp hd; clear hd; have hd := hd24; clear hd24
        refine ar_cv ok_Mo_done hk_Mo_net rfl rfl (As := [.int v1, .int (s.2.2.1 57 j11)]) (ad := 22) (rest := [.int (s.2.2.1 57 j11), .ref 22]) rfl rfl hM.1 (Nat.le_of_ble_eq_true rfl) (k_Mo_net v1 (s.2.2.1 57 j11) s h hM q22 hq23) (Nat.le_of_ble_eq_true rfl) (Nat.le_of_ble_eq_true rfl) (Nat.le_of_ble_eq_true rfl) (Nat.le_of_ble_eq_true rfl) (pc' := 43) rfl (fun r25 h27 z26 => ?_)
        obtain ⟨z31, z32⟩ := z26; subst z31; rw [z32]
        show am_S _ _ _ _ _ _ _ (43, [some (.ref 22), some (.int v1), some (.int v2), some (.int v3)], [.long q22, .int (s.2.2.1 57 j11), .ref 22], h, 0, 0) _
        obtain ⟨q33, hq34, hd35⟩ := Option.bind_eq_some_iff.mp hd; clear hd; have hd := hd35; clear hd35
        refine ar_cv ok_Mo_done hk_Mo_move rfl rfl (As := [.int (s.2.2.1 57 j11), .long q22]) (ad := 22) (rest := []) rfl rfl hM.1 (Nat.le_of_ble_eq_true rfl) (k_Mo_move (s.2.2.1 57 j11) q22 s h hM q33 hq34) (Nat.le_of_ble_eq_true rfl) (Nat.le_of_ble_eq_true rfl) (Nat.le_of_ble_eq_true rfl) (Nat.le_of_ble_eq_true rfl) (pc' := 46) rfl (fun r36 h38 z37 => ?_)
        obtain ⟨rfl, hM39, g41⟩ := z37
        have f40 := mF.tr f g41
        show am_S _ _ _ _ _ _ _ (46, [some (.ref 22), some (.int v1), some (.int v2), some (.int v3)], [], h38, 0, 0) _
        cases hd; exact K15 h38 hM39 f40
def l_Mo_done_56 : Nat → Int32 → Int32 → mS → Option (mS)
  | 0, _, _, _ => none
  | fu + 1, v1, v3, s => (am_ix v1 250).bind fun j48 => (if (((4 * v1) + (s.2.2.1 45 j48)) : Int32) ≤ v3 then (some s) else ((am_ix v3 1000).bind fun j52 => ((if ((s.2.2.1 52 j52) : Int32) = (s.1 16) then ((am_ix ((256 * (s.2.2.1 50 j52)) + (s.2.2.1 51 j52)) 65536).bind fun j63 => ((am_ix ((256 * (s.2.2.1 51 j52)) + (s.2.2.1 50 j52)) 65536).bind fun j70 => (some (mB (mB s 37 j63 ((s.2.2.2 37 j63) + (s.2.2.2 53 j52))) 37 j70 (((mB s 37 j63 ((s.2.2.2 37 j63) + (s.2.2.2 53 j52))).2.2.2 37 j70) - (s.2.2.2 53 j52)))))) else (some s)).bind fun (u55 : mS) => (l_Mo_done_56 fu v1 (v3 + 1) u55))))
set_option maxHeartbeats 4000000 in
set_option maxRecDepth 100000 in
theorem L_Mo_done_56 {Q : Option Value → am_H → Prop} (h0 : am_H) : ∀ (fu : Nat) (v1 : Int32) (v3 : Int32) (s : mS) (h : am_H), RM s h → mF h0 h → ∀ q : mS, l_Mo_done_56 fu v1 v3 s = some q → (∀ h' : am_H, RM q h' → mF h0 h' → am_S am_Pr none 2 48 0 0 66 (154, [some (.ref 22), some (.int v1), none, none], [], h', 0, 0) Q) → am_S am_Pr none 2 48 0 0 66 (56, [some (.ref 22), some (.int v1), none, some (.int v3)], [], h, 0, 0) Q := by
  intro fu
  induction fu with
  | zero => intro v1 v3 s h hM f q hd; cases hd
  | succ fu ih =>
    intro v1 v3 s h hM f q hd kk
    unfold l_Mo_done_56 at hd
    refine am_steps ok_Mo_done 5 (x' := (61, [some (.ref 22), some (.int v1), none, some (.int v3)], [.ref 22, .int (4 * v1), .int v3], h, 0, 0)) rfl (Nat.le_of_ble_eq_true rfl) (Nat.le_of_ble_eq_true rfl) ?_
    refine mr_get ok_Mo_done rfl hM (v := .ref 45) rfl (pc' := 64) rfl (Nat.le_of_ble_eq_true rfl) (Nat.le_of_ble_eq_true rfl) ?_
    refine am_steps ok_Mo_done 1 (x' := (65, [some (.ref 22), some (.int v1), none, some (.int v3)], [.int v1, .ref 45, .int (4 * v1), .int v3], h, 0, 0)) rfl (Nat.le_of_ble_eq_true rfl) (Nat.le_of_ble_eq_true rfl) ?_
    obtain ⟨j48, hx49, hd50⟩ := Option.bind_eq_some_iff.mp hd; clear hd; have hd := hd50; clear hd50
    refine mr_iald ok_Mo_done rfl hM (N := 250) (by decide) hx49 (pc' := 66) rfl (Nat.le_of_ble_eq_true rfl) (Nat.le_of_ble_eq_true rfl) ?_
    refine am_steps ok_Mo_done 2 (x' := (if (((4 * v1) + (s.2.2.1 45 j48)) : Int32) ≤ v3 then 154 else 70, [some (.ref 22), some (.int v1), none, some (.int v3)], [], h, 0, 0)) rfl (Nat.le_of_ble_eq_true rfl) (Nat.le_of_ble_eq_true rfl) ?_
    refine am_if (fun hc51 => ?_) (fun hc51 => ?_)
    · rw [if_pos hc51] at hd
      refine am_drop 3 ?_
      cases hd; exact kk h hM f
    · rw [if_neg hc51] at hd
      refine am_steps ok_Mo_done 1 (x' := (71, [some (.ref 22), some (.int v1), none, some (.int v3)], [.ref 22], h, 0, 0)) rfl (Nat.le_of_ble_eq_true rfl) (Nat.le_of_ble_eq_true rfl) ?_
      refine mr_get ok_Mo_done rfl hM (v := .ref 52) rfl (pc' := 74) rfl (Nat.le_of_ble_eq_true rfl) (Nat.le_of_ble_eq_true rfl) ?_
      refine am_steps ok_Mo_done 1 (x' := (75, [some (.ref 22), some (.int v1), none, some (.int v3)], [.int v3, .ref 52], h, 0, 0)) rfl (Nat.le_of_ble_eq_true rfl) (Nat.le_of_ble_eq_true rfl) ?_
      obtain ⟨j52, hx53, hd54⟩ := Option.bind_eq_some_iff.mp hd; clear hd; have hd := hd54; clear hd54
      refine mr_iald ok_Mo_done rfl hM (N := 1000) (by decide) hx53 (pc' := 76) rfl (Nat.le_of_ble_eq_true rfl) (Nat.le_of_ble_eq_true rfl) ?_
      refine am_steps ok_Mo_done 1 (x' := (77, [some (.ref 22), some (.int v1), none, some (.int v3)], [.ref 22, .int (s.2.2.1 52 j52)], h, 0, 0)) rfl (Nat.le_of_ble_eq_true rfl) (Nat.le_of_ble_eq_true rfl) ?_
      refine mr_get ok_Mo_done rfl hM (v := .int (s.1 16)) rfl (pc' := 80) rfl (Nat.le_of_ble_eq_true rfl) (Nat.le_of_ble_eq_true rfl) ?_
      refine am_steps ok_Mo_done 1 (x' := (if ((s.2.2.1 52 j52) : Int32) = (s.1 16) then 86 else 83, [some (.ref 22), some (.int v1), none, some (.int v3)], [], h, 0, 0)) rfl (Nat.le_of_ble_eq_true rfl) (Nat.le_of_ble_eq_true rfl) ?_
      obtain ⟨u55, hA57, hB58⟩ := Option.bind_eq_some_iff.mp hd; clear hd
      have K56 : ∀ h' : am_H, RM u55 h' → mF h0 h' → am_S am_Pr none 2 48 0 0 66 (148, [some (.ref 22), some (.int v1), none, some (.int v3)], [], h', 0, 0) Q := by
        have hd := hB58
        intro h59 hM60 f61
        refine am_steps ok_Mo_done 2 (x' := (56, [some (.ref 22), some (.int v1), none, some (.int (v3 + 1))], [], h59, 0, 0)) rfl (Nat.le_of_ble_eq_true rfl) (Nat.le_of_ble_eq_true rfl) ?_
        exact ih v1 (v3 + 1) u55 h59 hM60 f61 q hd kk
      clear hB58; have hd := hA57; clear hA57
      refine am_if (fun hc62 => ?_) (fun hc62 => ?_)
      · rw [if_pos hc62] at hd
        refine am_steps ok_Mo_done 1 (x' := (87, [some (.ref 22), some (.int v1), none, some (.int v3)], [.ref 22], h, 0, 0)) rfl (Nat.le_of_ble_eq_true rfl) (Nat.le_of_ble_eq_true rfl) ?_
        refine mr_get ok_Mo_done rfl hM (v := .ref 37) rfl (pc' := 90) rfl (Nat.le_of_ble_eq_true rfl) (Nat.le_of_ble_eq_true rfl) ?_
        refine am_steps ok_Mo_done 2 (x' := (94, [some (.ref 22), some (.int v1), none, some (.int v3)], [.ref 22, .int 256, .ref 37], h, 0, 0)) rfl (Nat.le_of_ble_eq_true rfl) (Nat.le_of_ble_eq_true rfl) ?_
        refine mr_get ok_Mo_done rfl hM (v := .ref 50) rfl (pc' := 97) rfl (Nat.le_of_ble_eq_true rfl) (Nat.le_of_ble_eq_true rfl) ?_
        refine am_steps ok_Mo_done 1 (x' := (98, [some (.ref 22), some (.int v1), none, some (.int v3)], [.int v3, .ref 50, .int 256, .ref 37], h, 0, 0)) rfl (Nat.le_of_ble_eq_true rfl) (Nat.le_of_ble_eq_true rfl) ?_
        refine mr_iald ok_Mo_done rfl hM (N := 1000) (by decide) hx53 (pc' := 99) rfl (Nat.le_of_ble_eq_true rfl) (Nat.le_of_ble_eq_true rfl) ?_
        refine am_steps ok_Mo_done 2 (x' := (101, [some (.ref 22), some (.int v1), none, some (.int v3)], [.ref 22, .int (256 * (s.2.2.1 50 j52)), .ref 37], h, 0, 0)) rfl (Nat.le_of_ble_eq_true rfl) (Nat.le_of_ble_eq_true rfl) ?_
        refine mr_get ok_Mo_done rfl hM (v := .ref 51) rfl (pc' := 104) rfl (Nat.le_of_ble_eq_true rfl) (Nat.le_of_ble_eq_true rfl) ?_
        refine am_steps ok_Mo_done 1 (x' := (105, [some (.ref 22), some (.int v1), none, some (.int v3)], [.int v3, .ref 51, .int (256 * (s.2.2.1 50 j52)), .ref 37], h, 0, 0)) rfl (Nat.le_of_ble_eq_true rfl) (Nat.le_of_ble_eq_true rfl) ?_
        refine mr_iald ok_Mo_done rfl hM (N := 1000) (by decide) hx53 (pc' := 106) rfl (Nat.le_of_ble_eq_true rfl) (Nat.le_of_ble_eq_true rfl) ?_
        refine am_steps ok_Mo_done 2 (x' := (108, [some (.ref 22), some (.int v1), none, some (.int v3)], [.int ((256 * (s.2.2.1 50 j52)) + (s.2.2.1 51 j52)), .ref 37, .int ((256 * (s.2.2.1 50 j52)) + (s.2.2.1 51 j52)), .ref 37], h, 0, 0)) rfl (Nat.le_of_ble_eq_true rfl) (Nat.le_of_ble_eq_true rfl) ?_
        obtain ⟨j63, hx64, hd65⟩ := Option.bind_eq_some_iff.mp hd; clear hd; have hd := hd65; clear hd65
        refine mr_lald ok_Mo_done rfl hM (N := 65536) (by decide) hx64 (pc' := 109) rfl (Nat.le_of_ble_eq_true rfl) (Nat.le_of_ble_eq_true rfl) ?_
        refine am_steps ok_Mo_done 1 (x' := (110, [some (.ref 22), some (.int v1), none, some (.int v3)], [.ref 22, .long (s.2.2.2 37 j63), .int ((256 * (s.2.2.1 50 j52)) + (s.2.2.1 51 j52)), .ref 37], h, 0, 0)) rfl (Nat.le_of_ble_eq_true rfl) (Nat.le_of_ble_eq_true rfl) ?_
        refine mr_get ok_Mo_done rfl hM (v := .ref 53) rfl (pc' := 113) rfl (Nat.le_of_ble_eq_true rfl) (Nat.le_of_ble_eq_true rfl) ?_
        refine am_steps ok_Mo_done 1 (x' := (114, [some (.ref 22), some (.int v1), none, some (.int v3)], [.int v3, .ref 53, .long (s.2.2.2 37 j63), .int ((256 * (s.2.2.1 50 j52)) + (s.2.2.1 51 j52)), .ref 37], h, 0, 0)) rfl (Nat.le_of_ble_eq_true rfl) (Nat.le_of_ble_eq_true rfl) ?_
        refine mr_lald ok_Mo_done rfl hM (N := 1000) (by decide) hx53 (pc' := 115) rfl (Nat.le_of_ble_eq_true rfl) (Nat.le_of_ble_eq_true rfl) ?_
        refine am_steps ok_Mo_done 1 (x' := (116, [some (.ref 22), some (.int v1), none, some (.int v3)], [.long ((s.2.2.2 37 j63) + (s.2.2.2 53 j52)), .int ((256 * (s.2.2.1 50 j52)) + (s.2.2.1 51 j52)), .ref 37], h, 0, 0)) rfl (Nat.le_of_ble_eq_true rfl) (Nat.le_of_ble_eq_true rfl) ?_
        refine mr_last ok_Mo_done rfl hM (N := 65536) (by decide) hx64 (pc' := 117) rfl (Nat.le_of_ble_eq_true rfl) (Nat.le_of_ble_eq_true rfl) (fun h66 hM67 g69 => ?_)
        have f68 := mF.tr f g69
        refine am_steps ok_Mo_done 1 (x' := (118, [some (.ref 22), some (.int v1), none, some (.int v3)], [.ref 22], h66, 0, 0)) rfl (Nat.le_of_ble_eq_true rfl) (Nat.le_of_ble_eq_true rfl) ?_
        refine mr_get ok_Mo_done rfl hM67 (v := .ref 37) rfl (pc' := 121) rfl (Nat.le_of_ble_eq_true rfl) (Nat.le_of_ble_eq_true rfl) ?_
        refine am_steps ok_Mo_done 2 (x' := (125, [some (.ref 22), some (.int v1), none, some (.int v3)], [.ref 22, .int 256, .ref 37], h66, 0, 0)) rfl (Nat.le_of_ble_eq_true rfl) (Nat.le_of_ble_eq_true rfl) ?_
        refine mr_get ok_Mo_done rfl hM67 (v := .ref 51) rfl (pc' := 128) rfl (Nat.le_of_ble_eq_true rfl) (Nat.le_of_ble_eq_true rfl) ?_
        refine am_steps ok_Mo_done 1 (x' := (129, [some (.ref 22), some (.int v1), none, some (.int v3)], [.int v3, .ref 51, .int 256, .ref 37], h66, 0, 0)) rfl (Nat.le_of_ble_eq_true rfl) (Nat.le_of_ble_eq_true rfl) ?_
        refine mr_iald ok_Mo_done rfl hM67 (N := 1000) (by decide) hx53 (pc' := 130) rfl (Nat.le_of_ble_eq_true rfl) (Nat.le_of_ble_eq_true rfl) ?_
        show am_S _ _ _ _ _ _ _ (130, [some (.ref 22), some (.int v1), none, some (.int v3)], [.int (s.2.2.1 51 j52), .int 256, .ref 37], h66, 0, 0) _
        refine am_steps ok_Mo_done 2 (x' := (132, [some (.ref 22), some (.int v1), none, some (.int v3)], [.ref 22, .int (256 * (s.2.2.1 51 j52)), .ref 37], h66, 0, 0)) rfl (Nat.le_of_ble_eq_true rfl) (Nat.le_of_ble_eq_true rfl) ?_
        refine mr_get ok_Mo_done rfl hM67 (v := .ref 50) rfl (pc' := 135) rfl (Nat.le_of_ble_eq_true rfl) (Nat.le_of_ble_eq_true rfl) ?_
        refine am_steps ok_Mo_done 1 (x' := (136, [some (.ref 22), some (.int v1), none, some (.int v3)], [.int v3, .ref 50, .int (256 * (s.2.2.1 51 j52)), .ref 37], h66, 0, 0)) rfl (Nat.le_of_ble_eq_true rfl) (Nat.le_of_ble_eq_true rfl) ?_
        refine mr_iald ok_Mo_done rfl hM67 (N := 1000) (by decide) hx53 (pc' := 137) rfl (Nat.le_of_ble_eq_true rfl) (Nat.le_of_ble_eq_true rfl) ?_
        show am_S _ _ _ _ _ _ _ (137, [some (.ref 22), some (.int v1), none, some (.int v3)], [.int (s.2.2.1 50 j52), .int (256 * (s.2.2.1 51 j52)), .ref 37], h66, 0, 0) _
        refine am_steps ok_Mo_done 2 (x' := (139, [some (.ref 22), some (.int v1), none, some (.int v3)], [.int ((256 * (s.2.2.1 51 j52)) + (s.2.2.1 50 j52)), .ref 37, .int ((256 * (s.2.2.1 51 j52)) + (s.2.2.1 50 j52)), .ref 37], h66, 0, 0)) rfl (Nat.le_of_ble_eq_true rfl) (Nat.le_of_ble_eq_true rfl) ?_
        obtain ⟨j70, hx71, hd72⟩ := Option.bind_eq_some_iff.mp hd; clear hd; have hd := hd72; clear hd72
        refine mr_lald ok_Mo_done rfl hM67 (N := 65536) (by decide) hx71 (pc' := 140) rfl (Nat.le_of_ble_eq_true rfl) (Nat.le_of_ble_eq_true rfl) ?_
        show am_S _ _ _ _ _ _ _ (140, [some (.ref 22), some (.int v1), none, some (.int v3)], [.long ((mB s 37 j63 ((s.2.2.2 37 j63) + (s.2.2.2 53 j52))).2.2.2 37 j70), .int ((256 * (s.2.2.1 51 j52)) + (s.2.2.1 50 j52)), .ref 37], h66, 0, 0) _
        refine am_steps ok_Mo_done 1 (x' := (141, [some (.ref 22), some (.int v1), none, some (.int v3)], [.ref 22, .long ((mB s 37 j63 ((s.2.2.2 37 j63) + (s.2.2.2 53 j52))).2.2.2 37 j70), .int ((256 * (s.2.2.1 51 j52)) + (s.2.2.1 50 j52)), .ref 37], h66, 0, 0)) rfl (Nat.le_of_ble_eq_true rfl) (Nat.le_of_ble_eq_true rfl) ?_
        refine mr_get ok_Mo_done rfl hM67 (v := .ref 53) rfl (pc' := 144) rfl (Nat.le_of_ble_eq_true rfl) (Nat.le_of_ble_eq_true rfl) ?_
        refine am_steps ok_Mo_done 1 (x' := (145, [some (.ref 22), some (.int v1), none, some (.int v3)], [.int v3, .ref 53, .long ((mB s 37 j63 ((s.2.2.2 37 j63) + (s.2.2.2 53 j52))).2.2.2 37 j70), .int ((256 * (s.2.2.1 51 j52)) + (s.2.2.1 50 j52)), .ref 37], h66, 0, 0)) rfl (Nat.le_of_ble_eq_true rfl) (Nat.le_of_ble_eq_true rfl) ?_
        refine mr_lald ok_Mo_done rfl hM67 (N := 1000) (by decide) hx53 (pc' := 146) rfl (Nat.le_of_ble_eq_true rfl) (Nat.le_of_ble_eq_true rfl) ?_
        show am_S _ _ _ _ _ _ _ (146, [some (.ref 22), some (.int v1), none, some (.int v3)], [.long (s.2.2.2 53 j52), .long ((mB s 37 j63 ((s.2.2.2 37 j63) + (s.2.2.2 53 j52))).2.2.2 37 j70), .int ((256 * (s.2.2.1 51 j52)) + (s.2.2.1 50 j52)), .ref 37], h66, 0, 0) _
        refine am_steps ok_Mo_done 1 (x' := (147, [some (.ref 22), some (.int v1), none, some (.int v3)], [.long (((mB s 37 j63 ((s.2.2.2 37 j63) + (s.2.2.2 53 j52))).2.2.2 37 j70) - (s.2.2.2 53 j52)), .int ((256 * (s.2.2.1 51 j52)) + (s.2.2.1 50 j52)), .ref 37], h66, 0, 0)) rfl (Nat.le_of_ble_eq_true rfl) (Nat.le_of_ble_eq_true rfl) ?_
        refine mr_last ok_Mo_done rfl hM67 (N := 65536) (by decide) hx71 (pc' := 148) rfl (Nat.le_of_ble_eq_true rfl) (Nat.le_of_ble_eq_true rfl) (fun h73 hM74 g76 => ?_)
        have f75 := mF.tr f68 g76
        cases hd; exact K56 h73 hM74 f75
      · rw [if_neg hc62] at hd
        refine am_steps ok_Mo_done 1 (x' := (148, [some (.ref 22), some (.int v1), none, some (.int v3)], [], h, 0, 0)) rfl (Nat.le_of_ble_eq_true rfl) (Nat.le_of_ble_eq_true rfl) ?_
        cases hd; exact K56 h hM f
def d_Mo_done (a : Int32) (s : mS) : Option (mS) := (d_Mo_places a s).bind fun q1 => ((l_Mo_done_8 100000 a q1.1 0 q1.2).bind fun q42 => ((l_Mo_done_56 100000 a (4 * a) q42).bind fun q77 => ((d_Mo_put 83 q77).bind fun q83 => ((am_ix a 250).bind fun j92 => ((am_ix (q83.2.2.1 43 j92) 256).bind fun j95 => ((d_Mo_putName (q83.2.2.2 26 j95) 4 q83).bind fun q98 => ((d_Mo_putName (q98.2.2.2 46 j92) 8 q98).bind fun q107 => ((d_Mo_put 10 q107).bind fun q116 => ((if ¬ ((q116.1 54) : Int32) = 0 then (some 1) else (if ¬ ((q116.2.2.1 43 j92) : Int32) = (q116.1 53) then (some 0) else (if ¬ ((lg_cmp (q116.2.2.2 46 j92) (q116.2.1 52)) : Int32) = 0 then (some 0) else (some 1)))).bind fun (u125 : Int32) => (if u125 = 0 ∨ u125 = 1 then (some (mI q116 54 u125)) else none))))))))))
set_option maxHeartbeats 4000000 in
set_option maxRecDepth 100000 in
theorem k_Mo_done (a : Int32) (s : mS) (h0 : am_H) (hM : RM s h0) (q : mS) (hd : d_Mo_done a s = some q) : am_Me am_Pr none 2 48 0 0 66 [.ref 22, .int a] h0 (mQv q h0) := by
  refine am_enter (d := hd_Mo_done) rfl (by decide +kernel) (Nat.le_of_ble_eq_true rfl) ?_
  show am_S _ _ _ _ _ _ _ (0, [some (.ref 22), some (.int a), none, none], [], h0, 0, 0) _
  unfold d_Mo_done at hd
  refine am_steps ok_Mo_done 2 (x' := (2, [some (.ref 22), some (.int a), none, none], [.int a, .ref 22], h0, 0, 0)) rfl (Nat.le_of_ble_eq_true rfl) (Nat.le_of_ble_eq_true rfl) ?_
  obtain ⟨q1, hq2, hd3⟩ := Option.bind_eq_some_iff.mp hd; clear hd; have hd := hd3; clear hd3
  refine ar_cv ok_Mo_done hk_Mo_places rfl rfl (As := [.int a]) (ad := 22) (rest := []) rfl rfl hM.1 (Nat.le_of_ble_eq_true rfl) (k_Mo_places a s h0 hM q1 hq2) (Nat.le_of_ble_eq_true rfl) (Nat.le_of_ble_eq_true rfl) (Nat.le_of_ble_eq_true rfl) (Nat.le_of_ble_eq_true rfl) (pc' := 5) rfl (fun r4 h6 z5 => ?_)
  obtain ⟨rfl, hM7, g9⟩ := z5
  have f8 := mF.tr (mF.rf) g9
  show am_S _ _ _ _ _ _ _ (5, [some (.ref 22), some (.int a), none, none], [.int q1.1], h6, 0, 0) _
  refine am_steps ok_Mo_done 3 (x' := (8, [some (.ref 22), some (.int a), some (.int q1.1), some (.int 0)], [], h6, 0, 0)) rfl (Nat.le_of_ble_eq_true rfl) (Nat.le_of_ble_eq_true rfl) ?_
  obtain ⟨q42, hq43, hd44⟩ := Option.bind_eq_some_iff.mp hd; clear hd; have hd := hd44; clear hd44
  refine L_Mo_done_8 h0 100000 a q1.1 0 q1.2 h6 hM7 f8 q42 hq43 (fun h45 hM46 f47 => ?_)
  show am_S _ _ _ _ _ _ _ (52, [some (.ref 22), some (.int a), some (.int q1.1), none], [], h45, 0, 0) _
  refine am_steps ok_Mo_done 4 (x' := (56, [some (.ref 22), some (.int a), some (.int q1.1), some (.int (4 * a))], [], h45, 0, 0)) rfl (Nat.le_of_ble_eq_true rfl) (Nat.le_of_ble_eq_true rfl) ?_
  refine am_drop 2 ?_
  obtain ⟨q77, hq78, hd79⟩ := Option.bind_eq_some_iff.mp hd; clear hd; have hd := hd79; clear hd79
  refine L_Mo_done_56 h0 100000 a (4 * a) q42 h45 hM46 f47 q77 hq78 (fun h80 hM81 f82 => ?_)
  show am_S _ _ _ _ _ _ _ (154, [some (.ref 22), some (.int a), none, none], [], h80, 0, 0) _
  refine am_steps ok_Mo_done 2 (x' := (157, [some (.ref 22), some (.int a), none, none], [.int 83, .ref 22], h80, 0, 0)) rfl (Nat.le_of_ble_eq_true rfl) (Nat.le_of_ble_eq_true rfl) ?_
  obtain ⟨q83, hq84, hd85⟩ := Option.bind_eq_some_iff.mp hd; clear hd; have hd := hd85; clear hd85
  refine ar_cv ok_Mo_done hk_Mo_put rfl rfl (As := [.int 83]) (ad := 22) (rest := []) rfl rfl hM81.1 (Nat.le_of_ble_eq_true rfl) (k_Mo_put 83 q77 h80 hM81 q83 hq84) (Nat.le_of_ble_eq_true rfl) (Nat.le_of_ble_eq_true rfl) (Nat.le_of_ble_eq_true rfl) (Nat.le_of_ble_eq_true rfl) (pc' := 160) rfl (fun r86 h88 z87 => ?_)
  obtain ⟨rfl, hM89, g91⟩ := z87
  have f90 := mF.tr f82 g91
  show am_S _ _ _ _ _ _ _ (160, [some (.ref 22), some (.int a), none, none], [], h88, 0, 0) _
  refine am_steps ok_Mo_done 2 (x' := (162, [some (.ref 22), some (.int a), none, none], [.ref 22, .ref 22], h88, 0, 0)) rfl (Nat.le_of_ble_eq_true rfl) (Nat.le_of_ble_eq_true rfl) ?_
  refine mr_get ok_Mo_done rfl hM89 (v := .ref 26) rfl (pc' := 165) rfl (Nat.le_of_ble_eq_true rfl) (Nat.le_of_ble_eq_true rfl) ?_
  refine am_steps ok_Mo_done 1 (x' := (166, [some (.ref 22), some (.int a), none, none], [.ref 22, .ref 26, .ref 22], h88, 0, 0)) rfl (Nat.le_of_ble_eq_true rfl) (Nat.le_of_ble_eq_true rfl) ?_
  refine mr_get ok_Mo_done rfl hM89 (v := .ref 43) rfl (pc' := 169) rfl (Nat.le_of_ble_eq_true rfl) (Nat.le_of_ble_eq_true rfl) ?_
  refine am_steps ok_Mo_done 1 (x' := (170, [some (.ref 22), some (.int a), none, none], [.int a, .ref 43, .ref 26, .ref 22], h88, 0, 0)) rfl (Nat.le_of_ble_eq_true rfl) (Nat.le_of_ble_eq_true rfl) ?_
  obtain ⟨j92, hx93, hd94⟩ := Option.bind_eq_some_iff.mp hd; clear hd; have hd := hd94; clear hd94
  refine mr_iald ok_Mo_done rfl hM89 (N := 250) (by decide) hx93 (pc' := 171) rfl (Nat.le_of_ble_eq_true rfl) (Nat.le_of_ble_eq_true rfl) ?_
  obtain ⟨j95, hx96, hd97⟩ := Option.bind_eq_some_iff.mp hd; clear hd; have hd := hd97; clear hd97
  refine mr_lald ok_Mo_done rfl hM89 (N := 256) (by decide) hx96 (pc' := 172) rfl (Nat.le_of_ble_eq_true rfl) (Nat.le_of_ble_eq_true rfl) ?_
  refine am_steps ok_Mo_done 1 (x' := (173, [some (.ref 22), some (.int a), none, none], [.int 4, .long (q83.2.2.2 26 j95), .ref 22], h88, 0, 0)) rfl (Nat.le_of_ble_eq_true rfl) (Nat.le_of_ble_eq_true rfl) ?_
  obtain ⟨q98, hq99, hd100⟩ := Option.bind_eq_some_iff.mp hd; clear hd; have hd := hd100; clear hd100
  refine ar_cv ok_Mo_done hk_Mo_putName rfl rfl (As := [.long (q83.2.2.2 26 j95), .int 4]) (ad := 22) (rest := []) rfl rfl hM89.1 (Nat.le_of_ble_eq_true rfl) (k_Mo_putName (q83.2.2.2 26 j95) 4 q83 h88 hM89 q98 hq99) (Nat.le_of_ble_eq_true rfl) (Nat.le_of_ble_eq_true rfl) (Nat.le_of_ble_eq_true rfl) (Nat.le_of_ble_eq_true rfl) (pc' := 176) rfl (fun r101 h103 z102 => ?_)
  obtain ⟨rfl, hM104, g106⟩ := z102
  have f105 := mF.tr f90 g106
  show am_S _ _ _ _ _ _ _ (176, [some (.ref 22), some (.int a), none, none], [], h103, 0, 0) _
  refine am_steps ok_Mo_done 2 (x' := (178, [some (.ref 22), some (.int a), none, none], [.ref 22, .ref 22], h103, 0, 0)) rfl (Nat.le_of_ble_eq_true rfl) (Nat.le_of_ble_eq_true rfl) ?_
  refine mr_get ok_Mo_done rfl hM104 (v := .ref 46) rfl (pc' := 181) rfl (Nat.le_of_ble_eq_true rfl) (Nat.le_of_ble_eq_true rfl) ?_
  refine am_steps ok_Mo_done 1 (x' := (182, [some (.ref 22), some (.int a), none, none], [.int a, .ref 46, .ref 22], h103, 0, 0)) rfl (Nat.le_of_ble_eq_true rfl) (Nat.le_of_ble_eq_true rfl) ?_
  refine mr_lald ok_Mo_done rfl hM104 (N := 250) (by decide) hx93 (pc' := 183) rfl (Nat.le_of_ble_eq_true rfl) (Nat.le_of_ble_eq_true rfl) ?_
  refine am_steps ok_Mo_done 1 (x' := (185, [some (.ref 22), some (.int a), none, none], [.int 8, .long (q98.2.2.2 46 j92), .ref 22], h103, 0, 0)) rfl (Nat.le_of_ble_eq_true rfl) (Nat.le_of_ble_eq_true rfl) ?_
  obtain ⟨q107, hq108, hd109⟩ := Option.bind_eq_some_iff.mp hd; clear hd; have hd := hd109; clear hd109
  refine ar_cv ok_Mo_done hk_Mo_putName rfl rfl (As := [.long (q98.2.2.2 46 j92), .int 8]) (ad := 22) (rest := []) rfl rfl hM104.1 (Nat.le_of_ble_eq_true rfl) (k_Mo_putName (q98.2.2.2 46 j92) 8 q98 h103 hM104 q107 hq108) (Nat.le_of_ble_eq_true rfl) (Nat.le_of_ble_eq_true rfl) (Nat.le_of_ble_eq_true rfl) (Nat.le_of_ble_eq_true rfl) (pc' := 188) rfl (fun r110 h112 z111 => ?_)
  obtain ⟨rfl, hM113, g115⟩ := z111
  have f114 := mF.tr f105 g115
  show am_S _ _ _ _ _ _ _ (188, [some (.ref 22), some (.int a), none, none], [], h112, 0, 0) _
  refine am_steps ok_Mo_done 2 (x' := (191, [some (.ref 22), some (.int a), none, none], [.int 10, .ref 22], h112, 0, 0)) rfl (Nat.le_of_ble_eq_true rfl) (Nat.le_of_ble_eq_true rfl) ?_
  obtain ⟨q116, hq117, hd118⟩ := Option.bind_eq_some_iff.mp hd; clear hd; have hd := hd118; clear hd118
  refine ar_cv ok_Mo_done hk_Mo_put rfl rfl (As := [.int 10]) (ad := 22) (rest := []) rfl rfl hM113.1 (Nat.le_of_ble_eq_true rfl) (k_Mo_put 10 q107 h112 hM113 q116 hq117) (Nat.le_of_ble_eq_true rfl) (Nat.le_of_ble_eq_true rfl) (Nat.le_of_ble_eq_true rfl) (Nat.le_of_ble_eq_true rfl) (pc' := 194) rfl (fun r119 h121 z120 => ?_)
  obtain ⟨rfl, hM122, g124⟩ := z120
  have f123 := mF.tr f114 g124
  show am_S _ _ _ _ _ _ _ (194, [some (.ref 22), some (.int a), none, none], [], h121, 0, 0) _
  refine am_steps ok_Mo_done 2 (x' := (196, [some (.ref 22), some (.int a), none, none], [.ref 22, .ref 22], h121, 0, 0)) rfl (Nat.le_of_ble_eq_true rfl) (Nat.le_of_ble_eq_true rfl) ?_
  refine mr_get ok_Mo_done rfl hM122 (v := .int (q116.1 54)) rfl (pc' := 199) rfl (Nat.le_of_ble_eq_true rfl) (Nat.le_of_ble_eq_true rfl) ?_
  refine am_steps ok_Mo_done 1 (x' := (if ¬ ((q116.1 54) : Int32) = 0 then 229 else 202, [some (.ref 22), some (.int a), none, none], [.ref 22], h121, 0, 0)) rfl (Nat.le_of_ble_eq_true rfl) (Nat.le_of_ble_eq_true rfl) ?_
  obtain ⟨u125, hA127, hB128⟩ := Option.bind_eq_some_iff.mp hd; clear hd
  have K126 : am_S am_Pr none 2 48 0 0 66 (234, [none, none, none, none], [.int u125, .ref 22], h121, 0, 0) (mQv q h0) := by
    have hd := hB128
    split at hd
    · rename_i hz133
      refine mr_put ok_Mo_done rfl hM122 (by decide) (hs_pkz hz133) (s' := (mI q116 54 u125)) (mfs_54 _ _) rfl (pc' := 237) rfl (Nat.le_of_ble_eq_true rfl) (Nat.le_of_ble_eq_true rfl) (fun h129 hM130 g132 => ?_)
      have f131 := mF.tr f123 g132
      cases hd; exact am_ret ok_Mo_done rfl (Nat.le_of_ble_eq_true rfl) (Nat.le_of_ble_eq_true rfl) ⟨rfl, hM130, f131⟩
    · cases hd
  clear hB128; have hd := hA127; clear hA127
  refine am_if (fun hc134 => ?_) (fun hc134 => ?_)
  · rw [if_pos hc134] at hd
    refine am_steps ok_Mo_done 2 (x' := (234, [some (.ref 22), some (.int a), none, none], [.int 1, .ref 22], h121, 0, 0)) rfl (Nat.le_of_ble_eq_true rfl) (Nat.le_of_ble_eq_true rfl) ?_
    refine am_drop 0 ?_
    refine am_drop 1 ?_
    cases hd; exact K126 
  · rw [if_neg hc134] at hd
    refine am_steps ok_Mo_done 1 (x' := (203, [some (.ref 22), some (.int a), none, none], [.ref 22, .ref 22], h121, 0, 0)) rfl (Nat.le_of_ble_eq_true rfl) (Nat.le_of_ble_eq_true rfl) ?_
    refine mr_get ok_Mo_done rfl hM122 (v := .ref 43) rfl (pc' := 206) rfl (Nat.le_of_ble_eq_true rfl) (Nat.le_of_ble_eq_true rfl) ?_
    refine am_steps ok_Mo_done 1 (x' := (207, [some (.ref 22), some (.int a), none, none], [.int a, .ref 43, .ref 22], h121, 0, 0)) rfl (Nat.le_of_ble_eq_true rfl) (Nat.le_of_ble_eq_true rfl) ?_
    refine mr_iald ok_Mo_done rfl hM122 (N := 250) (by decide) hx93 (pc' := 208) rfl (Nat.le_of_ble_eq_true rfl) (Nat.le_of_ble_eq_true rfl) ?_
    refine am_steps ok_Mo_done 1 (x' := (209, [some (.ref 22), some (.int a), none, none], [.ref 22, .int (q116.2.2.1 43 j92), .ref 22], h121, 0, 0)) rfl (Nat.le_of_ble_eq_true rfl) (Nat.le_of_ble_eq_true rfl) ?_
    refine mr_get ok_Mo_done rfl hM122 (v := .int (q116.1 53)) rfl (pc' := 212) rfl (Nat.le_of_ble_eq_true rfl) (Nat.le_of_ble_eq_true rfl) ?_
    refine am_steps ok_Mo_done 1 (x' := (if ¬ ((q116.2.2.1 43 j92) : Int32) = (q116.1 53) then 233 else 215, [some (.ref 22), some (.int a), none, none], [.ref 22], h121, 0, 0)) rfl (Nat.le_of_ble_eq_true rfl) (Nat.le_of_ble_eq_true rfl) ?_
    refine am_if (fun hc135 => ?_) (fun hc135 => ?_)
    · rw [if_pos hc135] at hd
      refine am_steps ok_Mo_done 1 (x' := (234, [some (.ref 22), some (.int a), none, none], [.int 0, .ref 22], h121, 0, 0)) rfl (Nat.le_of_ble_eq_true rfl) (Nat.le_of_ble_eq_true rfl) ?_
      refine am_drop 0 ?_
      refine am_drop 1 ?_
      cases hd; exact K126 
    · rw [if_neg hc135] at hd
      refine am_steps ok_Mo_done 1 (x' := (216, [some (.ref 22), some (.int a), none, none], [.ref 22, .ref 22], h121, 0, 0)) rfl (Nat.le_of_ble_eq_true rfl) (Nat.le_of_ble_eq_true rfl) ?_
      refine mr_get ok_Mo_done rfl hM122 (v := .ref 46) rfl (pc' := 219) rfl (Nat.le_of_ble_eq_true rfl) (Nat.le_of_ble_eq_true rfl) ?_
      refine am_steps ok_Mo_done 1 (x' := (220, [some (.ref 22), some (.int a), none, none], [.int a, .ref 46, .ref 22], h121, 0, 0)) rfl (Nat.le_of_ble_eq_true rfl) (Nat.le_of_ble_eq_true rfl) ?_
      refine mr_lald ok_Mo_done rfl hM122 (N := 250) (by decide) hx93 (pc' := 221) rfl (Nat.le_of_ble_eq_true rfl) (Nat.le_of_ble_eq_true rfl) ?_
      refine am_steps ok_Mo_done 1 (x' := (222, [some (.ref 22), some (.int a), none, none], [.ref 22, .long (q116.2.2.2 46 j92), .ref 22], h121, 0, 0)) rfl (Nat.le_of_ble_eq_true rfl) (Nat.le_of_ble_eq_true rfl) ?_
      refine mr_get ok_Mo_done rfl hM122 (v := .long (q116.2.1 52)) rfl (pc' := 225) rfl (Nat.le_of_ble_eq_true rfl) (Nat.le_of_ble_eq_true rfl) ?_
      refine am_steps ok_Mo_done 2 (x' := (if ¬ ((lg_cmp (q116.2.2.2 46 j92) (q116.2.1 52)) : Int32) = 0 then 233 else 229, [some (.ref 22), some (.int a), none, none], [.ref 22], h121, 0, 0)) rfl (Nat.le_of_ble_eq_true rfl) (Nat.le_of_ble_eq_true rfl) ?_
      refine am_if (fun hc136 => ?_) (fun hc136 => ?_)
      · rw [if_pos hc136] at hd
        refine am_steps ok_Mo_done 1 (x' := (234, [some (.ref 22), some (.int a), none, none], [.int 0, .ref 22], h121, 0, 0)) rfl (Nat.le_of_ble_eq_true rfl) (Nat.le_of_ble_eq_true rfl) ?_
        refine am_drop 0 ?_
        refine am_drop 1 ?_
        cases hd; exact K126 
      · rw [if_neg hc136] at hd
        refine am_steps ok_Mo_done 2 (x' := (234, [some (.ref 22), some (.int a), none, none], [.int 1, .ref 22], h121, 0, 0)) rfl (Nat.le_of_ble_eq_true rfl) (Nat.le_of_ble_eq_true rfl) ?_
        refine am_drop 0 ?_
        refine am_drop 1 ?_
        cases hd; exact K126 
def l_Mo_drop_120 : Nat → Int32 → Int32 → mS → Option (mS)
  | 0, _, _, _ => none
  | fu + 1, v2, v3, s => if (4 : Int32) ≤ v3 then (some s) else ((am_ix (((4 * v2) + 4) + v3) 1000).bind fun j41 => ((am_ix ((4 * v2) + v3) 1000).bind fun j44 => (l_Mo_drop_120 fu v2 (v3 + 1) (mA (mB (mA (mA (mA s 50 j44 (s.2.2.1 50 j41)) 51 j44 (s.2.2.1 51 j41)) 52 j44 (s.2.2.1 52 j41)) 53 j44 (s.2.2.2 53 j41)) 54 j44 (am_bn 3 (s.2.2.1 54 j41))))))
set_option maxHeartbeats 4000000 in
set_option maxRecDepth 100000 in
theorem L_Mo_drop_120 {Q : Option Value → am_H → Prop} (h0 : am_H) : ∀ (fu : Nat) (v2 : Int32) (v3 : Int32) (s : mS) (h : am_H), RM s h → mF h0 h → ∀ q : mS, l_Mo_drop_120 fu v2 v3 s = some q → (∀ h' : am_H, RM q h' → mF h0 h' → am_S am_Pr none 0 0 0 0 67 (241, [some (.ref 22), none, some (.int v2), none], [], h', 0, 0) Q) → am_S am_Pr none 0 0 0 0 67 (120, [some (.ref 22), none, some (.int v2), some (.int v3)], [], h, 0, 0) Q := by
  intro fu
  induction fu with
  | zero => intro v2 v3 s h hM f q hd; cases hd
  | succ fu ih =>
    intro v2 v3 s h hM f q hd kk
    unfold l_Mo_drop_120 at hd
    refine am_steps ok_Mo_drop 3 (x' := (if (4 : Int32) ≤ v3 then 241 else 125, [some (.ref 22), none, some (.int v2), some (.int v3)], [], h, 0, 0)) rfl (Nat.le_of_ble_eq_true rfl) (Nat.le_of_ble_eq_true rfl) ?_
    refine am_if (fun hc40 => ?_) (fun hc40 => ?_)
    · rw [if_pos hc40] at hd
      refine am_drop 3 ?_
      cases hd; exact kk h hM f
    · rw [if_neg hc40] at hd
      refine am_steps ok_Mo_drop 1 (x' := (126, [some (.ref 22), none, some (.int v2), some (.int v3)], [.ref 22], h, 0, 0)) rfl (Nat.le_of_ble_eq_true rfl) (Nat.le_of_ble_eq_true rfl) ?_
      refine mr_get ok_Mo_drop rfl hM (v := .ref 50) rfl (pc' := 129) rfl (Nat.le_of_ble_eq_true rfl) (Nat.le_of_ble_eq_true rfl) ?_
      refine am_steps ok_Mo_drop 6 (x' := (135, [some (.ref 22), none, some (.int v2), some (.int v3)], [.ref 22, .int ((4 * v2) + v3), .ref 50], h, 0, 0)) rfl (Nat.le_of_ble_eq_true rfl) (Nat.le_of_ble_eq_true rfl) ?_
      refine mr_get ok_Mo_drop rfl hM (v := .ref 50) rfl (pc' := 138) rfl (Nat.le_of_ble_eq_true rfl) (Nat.le_of_ble_eq_true rfl) ?_
      refine am_steps ok_Mo_drop 7 (x' := (145, [some (.ref 22), none, some (.int v2), some (.int v3)], [.int (((4 * v2) + 4) + v3), .ref 50, .int ((4 * v2) + v3), .ref 50], h, 0, 0)) rfl (Nat.le_of_ble_eq_true rfl) (Nat.le_of_ble_eq_true rfl) ?_
      obtain ⟨j41, hx42, hd43⟩ := Option.bind_eq_some_iff.mp hd; clear hd; have hd := hd43; clear hd43
      refine mr_iald ok_Mo_drop rfl hM (N := 1000) (by decide) hx42 (pc' := 146) rfl (Nat.le_of_ble_eq_true rfl) (Nat.le_of_ble_eq_true rfl) ?_
      obtain ⟨j44, hx45, hd46⟩ := Option.bind_eq_some_iff.mp hd; clear hd; have hd := hd46; clear hd46
      refine mr_iast ok_Mo_drop rfl hM (N := 1000) (by decide) hx45 (pc' := 147) rfl (Nat.le_of_ble_eq_true rfl) (Nat.le_of_ble_eq_true rfl) (fun h47 hM48 g50 => ?_)
      have f49 := mF.tr f g50
      refine am_steps ok_Mo_drop 1 (x' := (148, [some (.ref 22), none, some (.int v2), some (.int v3)], [.ref 22], h47, 0, 0)) rfl (Nat.le_of_ble_eq_true rfl) (Nat.le_of_ble_eq_true rfl) ?_
      refine mr_get ok_Mo_drop rfl hM48 (v := .ref 51) rfl (pc' := 151) rfl (Nat.le_of_ble_eq_true rfl) (Nat.le_of_ble_eq_true rfl) ?_
      refine am_steps ok_Mo_drop 6 (x' := (157, [some (.ref 22), none, some (.int v2), some (.int v3)], [.ref 22, .int ((4 * v2) + v3), .ref 51], h47, 0, 0)) rfl (Nat.le_of_ble_eq_true rfl) (Nat.le_of_ble_eq_true rfl) ?_
      refine mr_get ok_Mo_drop rfl hM48 (v := .ref 51) rfl (pc' := 160) rfl (Nat.le_of_ble_eq_true rfl) (Nat.le_of_ble_eq_true rfl) ?_
      refine am_steps ok_Mo_drop 7 (x' := (167, [some (.ref 22), none, some (.int v2), some (.int v3)], [.int (((4 * v2) + 4) + v3), .ref 51, .int ((4 * v2) + v3), .ref 51], h47, 0, 0)) rfl (Nat.le_of_ble_eq_true rfl) (Nat.le_of_ble_eq_true rfl) ?_
      refine mr_iald ok_Mo_drop rfl hM48 (N := 1000) (by decide) hx42 (pc' := 168) rfl (Nat.le_of_ble_eq_true rfl) (Nat.le_of_ble_eq_true rfl) ?_
      show am_S _ _ _ _ _ _ _ (168, [some (.ref 22), none, some (.int v2), some (.int v3)], [.int (s.2.2.1 51 j41), .int ((4 * v2) + v3), .ref 51], h47, 0, 0) _
      refine mr_iast ok_Mo_drop rfl hM48 (N := 1000) (by decide) hx45 (pc' := 169) rfl (Nat.le_of_ble_eq_true rfl) (Nat.le_of_ble_eq_true rfl) (fun h51 hM52 g54 => ?_)
      have f53 := mF.tr f49 g54
      refine am_steps ok_Mo_drop 1 (x' := (170, [some (.ref 22), none, some (.int v2), some (.int v3)], [.ref 22], h51, 0, 0)) rfl (Nat.le_of_ble_eq_true rfl) (Nat.le_of_ble_eq_true rfl) ?_
      refine mr_get ok_Mo_drop rfl hM52 (v := .ref 52) rfl (pc' := 173) rfl (Nat.le_of_ble_eq_true rfl) (Nat.le_of_ble_eq_true rfl) ?_
      refine am_steps ok_Mo_drop 6 (x' := (179, [some (.ref 22), none, some (.int v2), some (.int v3)], [.ref 22, .int ((4 * v2) + v3), .ref 52], h51, 0, 0)) rfl (Nat.le_of_ble_eq_true rfl) (Nat.le_of_ble_eq_true rfl) ?_
      refine mr_get ok_Mo_drop rfl hM52 (v := .ref 52) rfl (pc' := 182) rfl (Nat.le_of_ble_eq_true rfl) (Nat.le_of_ble_eq_true rfl) ?_
      refine am_steps ok_Mo_drop 7 (x' := (189, [some (.ref 22), none, some (.int v2), some (.int v3)], [.int (((4 * v2) + 4) + v3), .ref 52, .int ((4 * v2) + v3), .ref 52], h51, 0, 0)) rfl (Nat.le_of_ble_eq_true rfl) (Nat.le_of_ble_eq_true rfl) ?_
      refine mr_iald ok_Mo_drop rfl hM52 (N := 1000) (by decide) hx42 (pc' := 190) rfl (Nat.le_of_ble_eq_true rfl) (Nat.le_of_ble_eq_true rfl) ?_
      show am_S _ _ _ _ _ _ _ (190, [some (.ref 22), none, some (.int v2), some (.int v3)], [.int (s.2.2.1 52 j41), .int ((4 * v2) + v3), .ref 52], h51, 0, 0) _
      refine mr_iast ok_Mo_drop rfl hM52 (N := 1000) (by decide) hx45 (pc' := 191) rfl (Nat.le_of_ble_eq_true rfl) (Nat.le_of_ble_eq_true rfl) (fun h55 hM56 g58 => ?_)
      have f57 := mF.tr f53 g58
      refine am_steps ok_Mo_drop 1 (x' := (192, [some (.ref 22), none, some (.int v2), some (.int v3)], [.ref 22], h55, 0, 0)) rfl (Nat.le_of_ble_eq_true rfl) (Nat.le_of_ble_eq_true rfl) ?_
      refine mr_get ok_Mo_drop rfl hM56 (v := .ref 53) rfl (pc' := 195) rfl (Nat.le_of_ble_eq_true rfl) (Nat.le_of_ble_eq_true rfl) ?_
      refine am_steps ok_Mo_drop 6 (x' := (201, [some (.ref 22), none, some (.int v2), some (.int v3)], [.ref 22, .int ((4 * v2) + v3), .ref 53], h55, 0, 0)) rfl (Nat.le_of_ble_eq_true rfl) (Nat.le_of_ble_eq_true rfl) ?_
      refine mr_get ok_Mo_drop rfl hM56 (v := .ref 53) rfl (pc' := 204) rfl (Nat.le_of_ble_eq_true rfl) (Nat.le_of_ble_eq_true rfl) ?_
      refine am_steps ok_Mo_drop 7 (x' := (211, [some (.ref 22), none, some (.int v2), some (.int v3)], [.int (((4 * v2) + 4) + v3), .ref 53, .int ((4 * v2) + v3), .ref 53], h55, 0, 0)) rfl (Nat.le_of_ble_eq_true rfl) (Nat.le_of_ble_eq_true rfl) ?_
      refine mr_lald ok_Mo_drop rfl hM56 (N := 1000) (by decide) hx42 (pc' := 212) rfl (Nat.le_of_ble_eq_true rfl) (Nat.le_of_ble_eq_true rfl) ?_
      show am_S _ _ _ _ _ _ _ (212, [some (.ref 22), none, some (.int v2), some (.int v3)], [.long (s.2.2.2 53 j41), .int ((4 * v2) + v3), .ref 53], h55, 0, 0) _
      refine mr_last ok_Mo_drop rfl hM56 (N := 1000) (by decide) hx45 (pc' := 213) rfl (Nat.le_of_ble_eq_true rfl) (Nat.le_of_ble_eq_true rfl) (fun h59 hM60 g62 => ?_)
      have f61 := mF.tr f57 g62
      refine am_steps ok_Mo_drop 1 (x' := (214, [some (.ref 22), none, some (.int v2), some (.int v3)], [.ref 22], h59, 0, 0)) rfl (Nat.le_of_ble_eq_true rfl) (Nat.le_of_ble_eq_true rfl) ?_
      refine mr_get ok_Mo_drop rfl hM60 (v := .ref 54) rfl (pc' := 217) rfl (Nat.le_of_ble_eq_true rfl) (Nat.le_of_ble_eq_true rfl) ?_
      refine am_steps ok_Mo_drop 6 (x' := (223, [some (.ref 22), none, some (.int v2), some (.int v3)], [.ref 22, .int ((4 * v2) + v3), .ref 54], h59, 0, 0)) rfl (Nat.le_of_ble_eq_true rfl) (Nat.le_of_ble_eq_true rfl) ?_
      refine mr_get ok_Mo_drop rfl hM60 (v := .ref 54) rfl (pc' := 226) rfl (Nat.le_of_ble_eq_true rfl) (Nat.le_of_ble_eq_true rfl) ?_
      refine am_steps ok_Mo_drop 7 (x' := (233, [some (.ref 22), none, some (.int v2), some (.int v3)], [.int (((4 * v2) + 4) + v3), .ref 54, .int ((4 * v2) + v3), .ref 54], h59, 0, 0)) rfl (Nat.le_of_ble_eq_true rfl) (Nat.le_of_ble_eq_true rfl) ?_
      refine mr_bald ok_Mo_drop rfl hM60 (N := 1000) (by decide) (Or.inr rfl) hx42 (pc' := 234) rfl (Nat.le_of_ble_eq_true rfl) (Nat.le_of_ble_eq_true rfl) ?_
      show am_S _ _ _ _ _ _ _ (234, [some (.ref 22), none, some (.int v2), some (.int v3)], [.int (s.2.2.1 54 j41), .int ((4 * v2) + v3), .ref 54], h59, 0, 0) _
      refine mr_bast ok_Mo_drop rfl hM60 (N := 1000) (by decide) (Or.inr rfl) hx45 (pc' := 235) rfl (Nat.le_of_ble_eq_true rfl) (Nat.le_of_ble_eq_true rfl) (fun h63 hM64 g66 => ?_)
      have f65 := mF.tr f61 g66
      refine am_steps ok_Mo_drop 2 (x' := (120, [some (.ref 22), none, some (.int v2), some (.int (v3 + 1))], [], h63, 0, 0)) rfl (Nat.le_of_ble_eq_true rfl) (Nat.le_of_ble_eq_true rfl) ?_
      exact ih v2 (v3 + 1) (mA (mB (mA (mA (mA s 50 j44 (s.2.2.1 50 j41)) 51 j44 (s.2.2.1 51 j41)) 52 j44 (s.2.2.1 52 j41)) 53 j44 (s.2.2.2 53 j41)) 54 j44 (am_bn 3 (s.2.2.1 54 j41))) h63 hM64 f65 q hd kk
def l_Mo_drop_12 : Nat → Int32 → mS → Option (mS)
  | 0, _, _ => none
  | fu + 1, v2, s => if ((s.1 31) : Int32) ≤ v2 then (some s) else ((am_ix (v2 + 1) 250).bind fun j6 => ((am_ix v2 250).bind fun j9 => ((l_Mo_drop_120 100000 v2 0 (mA (mA (mB (mB (mA (mA (mA s 43 j9 (s.2.2.1 43 j6)) 44 j9 (s.2.2.1 44 j6)) 45 j9 (s.2.2.1 45 j6)) 46 j9 (s.2.2.2 46 j6)) 47 j9 (s.2.2.2 47 j6)) 48 j9 (am_bn 3 (s.2.2.1 48 j6))) 49 j9 (am_bn 3 (s.2.2.1 49 j6)))).bind fun q67 => (l_Mo_drop_12 fu (v2 + 1) q67))))
set_option maxHeartbeats 4000000 in
set_option maxRecDepth 100000 in
theorem L_Mo_drop_12 {Q : Option Value → am_H → Prop} (h0 : am_H) : ∀ (fu : Nat) (v2 : Int32) (s : mS) (h : am_H), RM s h → mF h0 h → ∀ q : mS, l_Mo_drop_12 fu v2 s = some q → (∀ h' : am_H, RM q h' → mF h0 h' → am_S am_Pr none 0 0 0 0 67 (247, [some (.ref 22), none, none, none], [], h', 0, 0) Q) → am_S am_Pr none 0 0 0 0 67 (12, [some (.ref 22), none, some (.int v2), none], [], h, 0, 0) Q := by
  intro fu
  induction fu with
  | zero => intro v2 s h hM f q hd; cases hd
  | succ fu ih =>
    intro v2 s h hM f q hd kk
    unfold l_Mo_drop_12 at hd
    refine am_steps ok_Mo_drop 2 (x' := (14, [some (.ref 22), none, some (.int v2), none], [.ref 22, .int v2], h, 0, 0)) rfl (Nat.le_of_ble_eq_true rfl) (Nat.le_of_ble_eq_true rfl) ?_
    refine mr_get ok_Mo_drop rfl hM (v := .int (s.1 31)) rfl (pc' := 17) rfl (Nat.le_of_ble_eq_true rfl) (Nat.le_of_ble_eq_true rfl) ?_
    refine am_steps ok_Mo_drop 1 (x' := (if ((s.1 31) : Int32) ≤ v2 then 247 else 20, [some (.ref 22), none, some (.int v2), none], [], h, 0, 0)) rfl (Nat.le_of_ble_eq_true rfl) (Nat.le_of_ble_eq_true rfl) ?_
    refine am_if (fun hc5 => ?_) (fun hc5 => ?_)
    · rw [if_pos hc5] at hd
      refine am_drop 2 ?_
      cases hd; exact kk h hM f
    · rw [if_neg hc5] at hd
      refine am_steps ok_Mo_drop 1 (x' := (21, [some (.ref 22), none, some (.int v2), none], [.ref 22], h, 0, 0)) rfl (Nat.le_of_ble_eq_true rfl) (Nat.le_of_ble_eq_true rfl) ?_
      refine mr_get ok_Mo_drop rfl hM (v := .ref 43) rfl (pc' := 24) rfl (Nat.le_of_ble_eq_true rfl) (Nat.le_of_ble_eq_true rfl) ?_
      refine am_steps ok_Mo_drop 2 (x' := (26, [some (.ref 22), none, some (.int v2), none], [.ref 22, .int v2, .ref 43], h, 0, 0)) rfl (Nat.le_of_ble_eq_true rfl) (Nat.le_of_ble_eq_true rfl) ?_
      refine mr_get ok_Mo_drop rfl hM (v := .ref 43) rfl (pc' := 29) rfl (Nat.le_of_ble_eq_true rfl) (Nat.le_of_ble_eq_true rfl) ?_
      refine am_steps ok_Mo_drop 3 (x' := (32, [some (.ref 22), none, some (.int v2), none], [.int (v2 + 1), .ref 43, .int v2, .ref 43], h, 0, 0)) rfl (Nat.le_of_ble_eq_true rfl) (Nat.le_of_ble_eq_true rfl) ?_
      obtain ⟨j6, hx7, hd8⟩ := Option.bind_eq_some_iff.mp hd; clear hd; have hd := hd8; clear hd8
      refine mr_iald ok_Mo_drop rfl hM (N := 250) (by decide) hx7 (pc' := 33) rfl (Nat.le_of_ble_eq_true rfl) (Nat.le_of_ble_eq_true rfl) ?_
      obtain ⟨j9, hx10, hd11⟩ := Option.bind_eq_some_iff.mp hd; clear hd; have hd := hd11; clear hd11
      refine mr_iast ok_Mo_drop rfl hM (N := 250) (by decide) hx10 (pc' := 34) rfl (Nat.le_of_ble_eq_true rfl) (Nat.le_of_ble_eq_true rfl) (fun h12 hM13 g15 => ?_)
      have f14 := mF.tr f g15
      refine am_steps ok_Mo_drop 1 (x' := (35, [some (.ref 22), none, some (.int v2), none], [.ref 22], h12, 0, 0)) rfl (Nat.le_of_ble_eq_true rfl) (Nat.le_of_ble_eq_true rfl) ?_
      refine mr_get ok_Mo_drop rfl hM13 (v := .ref 44) rfl (pc' := 38) rfl (Nat.le_of_ble_eq_true rfl) (Nat.le_of_ble_eq_true rfl) ?_
      refine am_steps ok_Mo_drop 2 (x' := (40, [some (.ref 22), none, some (.int v2), none], [.ref 22, .int v2, .ref 44], h12, 0, 0)) rfl (Nat.le_of_ble_eq_true rfl) (Nat.le_of_ble_eq_true rfl) ?_
      refine mr_get ok_Mo_drop rfl hM13 (v := .ref 44) rfl (pc' := 43) rfl (Nat.le_of_ble_eq_true rfl) (Nat.le_of_ble_eq_true rfl) ?_
      refine am_steps ok_Mo_drop 3 (x' := (46, [some (.ref 22), none, some (.int v2), none], [.int (v2 + 1), .ref 44, .int v2, .ref 44], h12, 0, 0)) rfl (Nat.le_of_ble_eq_true rfl) (Nat.le_of_ble_eq_true rfl) ?_
      refine mr_iald ok_Mo_drop rfl hM13 (N := 250) (by decide) hx7 (pc' := 47) rfl (Nat.le_of_ble_eq_true rfl) (Nat.le_of_ble_eq_true rfl) ?_
      show am_S _ _ _ _ _ _ _ (47, [some (.ref 22), none, some (.int v2), none], [.int (s.2.2.1 44 j6), .int v2, .ref 44], h12, 0, 0) _
      refine mr_iast ok_Mo_drop rfl hM13 (N := 250) (by decide) hx10 (pc' := 48) rfl (Nat.le_of_ble_eq_true rfl) (Nat.le_of_ble_eq_true rfl) (fun h16 hM17 g19 => ?_)
      have f18 := mF.tr f14 g19
      refine am_steps ok_Mo_drop 1 (x' := (49, [some (.ref 22), none, some (.int v2), none], [.ref 22], h16, 0, 0)) rfl (Nat.le_of_ble_eq_true rfl) (Nat.le_of_ble_eq_true rfl) ?_
      refine mr_get ok_Mo_drop rfl hM17 (v := .ref 45) rfl (pc' := 52) rfl (Nat.le_of_ble_eq_true rfl) (Nat.le_of_ble_eq_true rfl) ?_
      refine am_steps ok_Mo_drop 2 (x' := (54, [some (.ref 22), none, some (.int v2), none], [.ref 22, .int v2, .ref 45], h16, 0, 0)) rfl (Nat.le_of_ble_eq_true rfl) (Nat.le_of_ble_eq_true rfl) ?_
      refine mr_get ok_Mo_drop rfl hM17 (v := .ref 45) rfl (pc' := 57) rfl (Nat.le_of_ble_eq_true rfl) (Nat.le_of_ble_eq_true rfl) ?_
      refine am_steps ok_Mo_drop 3 (x' := (60, [some (.ref 22), none, some (.int v2), none], [.int (v2 + 1), .ref 45, .int v2, .ref 45], h16, 0, 0)) rfl (Nat.le_of_ble_eq_true rfl) (Nat.le_of_ble_eq_true rfl) ?_
      refine mr_iald ok_Mo_drop rfl hM17 (N := 250) (by decide) hx7 (pc' := 61) rfl (Nat.le_of_ble_eq_true rfl) (Nat.le_of_ble_eq_true rfl) ?_
      show am_S _ _ _ _ _ _ _ (61, [some (.ref 22), none, some (.int v2), none], [.int (s.2.2.1 45 j6), .int v2, .ref 45], h16, 0, 0) _
      refine mr_iast ok_Mo_drop rfl hM17 (N := 250) (by decide) hx10 (pc' := 62) rfl (Nat.le_of_ble_eq_true rfl) (Nat.le_of_ble_eq_true rfl) (fun h20 hM21 g23 => ?_)
      have f22 := mF.tr f18 g23
      refine am_steps ok_Mo_drop 1 (x' := (63, [some (.ref 22), none, some (.int v2), none], [.ref 22], h20, 0, 0)) rfl (Nat.le_of_ble_eq_true rfl) (Nat.le_of_ble_eq_true rfl) ?_
      refine mr_get ok_Mo_drop rfl hM21 (v := .ref 46) rfl (pc' := 66) rfl (Nat.le_of_ble_eq_true rfl) (Nat.le_of_ble_eq_true rfl) ?_
      refine am_steps ok_Mo_drop 2 (x' := (68, [some (.ref 22), none, some (.int v2), none], [.ref 22, .int v2, .ref 46], h20, 0, 0)) rfl (Nat.le_of_ble_eq_true rfl) (Nat.le_of_ble_eq_true rfl) ?_
      refine mr_get ok_Mo_drop rfl hM21 (v := .ref 46) rfl (pc' := 71) rfl (Nat.le_of_ble_eq_true rfl) (Nat.le_of_ble_eq_true rfl) ?_
      refine am_steps ok_Mo_drop 3 (x' := (74, [some (.ref 22), none, some (.int v2), none], [.int (v2 + 1), .ref 46, .int v2, .ref 46], h20, 0, 0)) rfl (Nat.le_of_ble_eq_true rfl) (Nat.le_of_ble_eq_true rfl) ?_
      refine mr_lald ok_Mo_drop rfl hM21 (N := 250) (by decide) hx7 (pc' := 75) rfl (Nat.le_of_ble_eq_true rfl) (Nat.le_of_ble_eq_true rfl) ?_
      show am_S _ _ _ _ _ _ _ (75, [some (.ref 22), none, some (.int v2), none], [.long (s.2.2.2 46 j6), .int v2, .ref 46], h20, 0, 0) _
      refine mr_last ok_Mo_drop rfl hM21 (N := 250) (by decide) hx10 (pc' := 76) rfl (Nat.le_of_ble_eq_true rfl) (Nat.le_of_ble_eq_true rfl) (fun h24 hM25 g27 => ?_)
      have f26 := mF.tr f22 g27
      refine am_steps ok_Mo_drop 1 (x' := (77, [some (.ref 22), none, some (.int v2), none], [.ref 22], h24, 0, 0)) rfl (Nat.le_of_ble_eq_true rfl) (Nat.le_of_ble_eq_true rfl) ?_
      refine mr_get ok_Mo_drop rfl hM25 (v := .ref 47) rfl (pc' := 80) rfl (Nat.le_of_ble_eq_true rfl) (Nat.le_of_ble_eq_true rfl) ?_
      refine am_steps ok_Mo_drop 2 (x' := (82, [some (.ref 22), none, some (.int v2), none], [.ref 22, .int v2, .ref 47], h24, 0, 0)) rfl (Nat.le_of_ble_eq_true rfl) (Nat.le_of_ble_eq_true rfl) ?_
      refine mr_get ok_Mo_drop rfl hM25 (v := .ref 47) rfl (pc' := 85) rfl (Nat.le_of_ble_eq_true rfl) (Nat.le_of_ble_eq_true rfl) ?_
      refine am_steps ok_Mo_drop 3 (x' := (88, [some (.ref 22), none, some (.int v2), none], [.int (v2 + 1), .ref 47, .int v2, .ref 47], h24, 0, 0)) rfl (Nat.le_of_ble_eq_true rfl) (Nat.le_of_ble_eq_true rfl) ?_
      refine mr_lald ok_Mo_drop rfl hM25 (N := 250) (by decide) hx7 (pc' := 89) rfl (Nat.le_of_ble_eq_true rfl) (Nat.le_of_ble_eq_true rfl) ?_
      show am_S _ _ _ _ _ _ _ (89, [some (.ref 22), none, some (.int v2), none], [.long (s.2.2.2 47 j6), .int v2, .ref 47], h24, 0, 0) _
      refine mr_last ok_Mo_drop rfl hM25 (N := 250) (by decide) hx10 (pc' := 90) rfl (Nat.le_of_ble_eq_true rfl) (Nat.le_of_ble_eq_true rfl) (fun h28 hM29 g31 => ?_)
      have f30 := mF.tr f26 g31
      refine am_steps ok_Mo_drop 1 (x' := (91, [some (.ref 22), none, some (.int v2), none], [.ref 22], h28, 0, 0)) rfl (Nat.le_of_ble_eq_true rfl) (Nat.le_of_ble_eq_true rfl) ?_
      refine mr_get ok_Mo_drop rfl hM29 (v := .ref 48) rfl (pc' := 94) rfl (Nat.le_of_ble_eq_true rfl) (Nat.le_of_ble_eq_true rfl) ?_
      refine am_steps ok_Mo_drop 2 (x' := (96, [some (.ref 22), none, some (.int v2), none], [.ref 22, .int v2, .ref 48], h28, 0, 0)) rfl (Nat.le_of_ble_eq_true rfl) (Nat.le_of_ble_eq_true rfl) ?_
      refine mr_get ok_Mo_drop rfl hM29 (v := .ref 48) rfl (pc' := 99) rfl (Nat.le_of_ble_eq_true rfl) (Nat.le_of_ble_eq_true rfl) ?_
      refine am_steps ok_Mo_drop 3 (x' := (102, [some (.ref 22), none, some (.int v2), none], [.int (v2 + 1), .ref 48, .int v2, .ref 48], h28, 0, 0)) rfl (Nat.le_of_ble_eq_true rfl) (Nat.le_of_ble_eq_true rfl) ?_
      refine mr_bald ok_Mo_drop rfl hM29 (N := 250) (by decide) (Or.inr rfl) hx7 (pc' := 103) rfl (Nat.le_of_ble_eq_true rfl) (Nat.le_of_ble_eq_true rfl) ?_
      show am_S _ _ _ _ _ _ _ (103, [some (.ref 22), none, some (.int v2), none], [.int (s.2.2.1 48 j6), .int v2, .ref 48], h28, 0, 0) _
      refine mr_bast ok_Mo_drop rfl hM29 (N := 250) (by decide) (Or.inr rfl) hx10 (pc' := 104) rfl (Nat.le_of_ble_eq_true rfl) (Nat.le_of_ble_eq_true rfl) (fun h32 hM33 g35 => ?_)
      have f34 := mF.tr f30 g35
      refine am_steps ok_Mo_drop 1 (x' := (105, [some (.ref 22), none, some (.int v2), none], [.ref 22], h32, 0, 0)) rfl (Nat.le_of_ble_eq_true rfl) (Nat.le_of_ble_eq_true rfl) ?_
      refine mr_get ok_Mo_drop rfl hM33 (v := .ref 49) rfl (pc' := 108) rfl (Nat.le_of_ble_eq_true rfl) (Nat.le_of_ble_eq_true rfl) ?_
      refine am_steps ok_Mo_drop 2 (x' := (110, [some (.ref 22), none, some (.int v2), none], [.ref 22, .int v2, .ref 49], h32, 0, 0)) rfl (Nat.le_of_ble_eq_true rfl) (Nat.le_of_ble_eq_true rfl) ?_
      refine mr_get ok_Mo_drop rfl hM33 (v := .ref 49) rfl (pc' := 113) rfl (Nat.le_of_ble_eq_true rfl) (Nat.le_of_ble_eq_true rfl) ?_
      refine am_steps ok_Mo_drop 3 (x' := (116, [some (.ref 22), none, some (.int v2), none], [.int (v2 + 1), .ref 49, .int v2, .ref 49], h32, 0, 0)) rfl (Nat.le_of_ble_eq_true rfl) (Nat.le_of_ble_eq_true rfl) ?_
      refine mr_bald ok_Mo_drop rfl hM33 (N := 250) (by decide) (Or.inr rfl) hx7 (pc' := 117) rfl (Nat.le_of_ble_eq_true rfl) (Nat.le_of_ble_eq_true rfl) ?_
      show am_S _ _ _ _ _ _ _ (117, [some (.ref 22), none, some (.int v2), none], [.int (s.2.2.1 49 j6), .int v2, .ref 49], h32, 0, 0) _
      refine mr_bast ok_Mo_drop rfl hM33 (N := 250) (by decide) (Or.inr rfl) hx10 (pc' := 118) rfl (Nat.le_of_ble_eq_true rfl) (Nat.le_of_ble_eq_true rfl) (fun h36 hM37 g39 => ?_)
      have f38 := mF.tr f34 g39
      refine am_steps ok_Mo_drop 2 (x' := (120, [some (.ref 22), none, some (.int v2), some (.int 0)], [], h36, 0, 0)) rfl (Nat.le_of_ble_eq_true rfl) (Nat.le_of_ble_eq_true rfl) ?_
      obtain ⟨q67, hq68, hd69⟩ := Option.bind_eq_some_iff.mp hd; clear hd; have hd := hd69; clear hd69
      refine L_Mo_drop_120 h0 100000 v2 0 (mA (mA (mB (mB (mA (mA (mA s 43 j9 (s.2.2.1 43 j6)) 44 j9 (s.2.2.1 44 j6)) 45 j9 (s.2.2.1 45 j6)) 46 j9 (s.2.2.2 46 j6)) 47 j9 (s.2.2.2 47 j6)) 48 j9 (am_bn 3 (s.2.2.1 48 j6))) 49 j9 (am_bn 3 (s.2.2.1 49 j6))) h36 hM37 f38 q67 hq68 (fun h70 hM71 f72 => ?_)
      show am_S _ _ _ _ _ _ _ (241, [some (.ref 22), none, some (.int v2), none], [], h70, 0, 0) _
      refine am_steps ok_Mo_drop 2 (x' := (12, [some (.ref 22), none, some (.int (v2 + 1)), none], [], h70, 0, 0)) rfl (Nat.le_of_ble_eq_true rfl) (Nat.le_of_ble_eq_true rfl) ?_
      exact ih (v2 + 1) q67 h70 hM71 f72 q hd kk
def d_Mo_drop (a : Int32) (s : mS) : Option (mS) := (l_Mo_drop_12 100000 a (mI s 31 ((s.1 31) - 1))).bind fun q73 => (some q73)
set_option maxHeartbeats 4000000 in
set_option maxRecDepth 100000 in
theorem k_Mo_drop (a : Int32) (s : mS) (h0 : am_H) (hM : RM s h0) (q : mS) (hd : d_Mo_drop a s = some q) : am_Me am_Pr none 0 0 0 0 67 [.ref 22, .int a] h0 (mQv q h0) := by
  refine am_enter (d := hd_Mo_drop) rfl (by decide +kernel) (Nat.le_of_ble_eq_true rfl) ?_
  show am_S _ _ _ _ _ _ _ (0, [some (.ref 22), some (.int a), none, none], [], h0, 0, 0) _
  unfold d_Mo_drop at hd
  refine am_steps ok_Mo_drop 2 (x' := (2, [some (.ref 22), some (.int a), none, none], [.ref 22, .ref 22], h0, 0, 0)) rfl (Nat.le_of_ble_eq_true rfl) (Nat.le_of_ble_eq_true rfl) ?_
  refine mr_get ok_Mo_drop rfl hM (v := .int (s.1 31)) rfl (pc' := 5) rfl (Nat.le_of_ble_eq_true rfl) (Nat.le_of_ble_eq_true rfl) ?_
  refine am_steps ok_Mo_drop 2 (x' := (7, [some (.ref 22), some (.int a), none, none], [.int ((s.1 31) - 1), .ref 22], h0, 0, 0)) rfl (Nat.le_of_ble_eq_true rfl) (Nat.le_of_ble_eq_true rfl) ?_
  refine mr_put ok_Mo_drop rfl hM (by decide) rfl (s' := (mI s 31 ((s.1 31) - 1))) (mfs_31 _ _) rfl (pc' := 10) rfl (Nat.le_of_ble_eq_true rfl) (Nat.le_of_ble_eq_true rfl) (fun h1 hM2 g4 => ?_)
  have f3 := mF.tr (mF.rf) g4
  refine am_steps ok_Mo_drop 2 (x' := (12, [some (.ref 22), some (.int a), some (.int a), none], [], h1, 0, 0)) rfl (Nat.le_of_ble_eq_true rfl) (Nat.le_of_ble_eq_true rfl) ?_
  refine am_drop 1 ?_
  obtain ⟨q73, hq74, hd75⟩ := Option.bind_eq_some_iff.mp hd; clear hd; have hd := hd75; clear hd75
  refine L_Mo_drop_12 h0 100000 a (mI s 31 ((s.1 31) - 1)) h1 hM2 f3 q73 hq74 (fun h76 hM77 f78 => ?_)
  show am_S _ _ _ _ _ _ _ (247, [some (.ref 22), none, none, none], [], h76, 0, 0) _
  cases hd; exact am_ret ok_Mo_drop rfl (Nat.le_of_ble_eq_true rfl) (Nat.le_of_ble_eq_true rfl) ⟨rfl, hM77, f78⟩
def l_Mo_settle_7 : Nat → Int32 → Int32 → mS → Option (mS)
  | 0, _, _, _ => none
  | fu + 1, v1, v2, s => if (250 : Int32) ≤ v2 then (some s) else (if (v1 : Int32) < 0 then (some s) else ((d_Mo_done v1 s).bind fun q12 => ((d_Mo_drop v1 q12).bind fun q21 => ((d_Mo_check  q21).bind fun q30 => ((d_Mo_firstAble  q30).bind fun q39 => (l_Mo_settle_7 fu q39.1 (v2 + 1) q39.2))))))
set_option maxHeartbeats 4000000 in
set_option maxRecDepth 100000 in
theorem L_Mo_settle_7 {Q : Option Value → am_H → Prop} (h0 : am_H) : ∀ (fu : Nat) (v1 : Int32) (v2 : Int32) (s : mS) (h : am_H), RM s h → mF h0 h → ∀ q : mS, l_Mo_settle_7 fu v1 v2 s = some q → (∀ h' : am_H, RM q h' → mF h0 h' → am_S am_Pr none 4 107 0 0 68 (43, [some (.ref 22), none, none], [], h', 0, 0) Q) → am_S am_Pr none 4 107 0 0 68 (7, [some (.ref 22), some (.int v1), some (.int v2)], [], h, 0, 0) Q := by
  intro fu
  induction fu with
  | zero => intro v1 v2 s h hM f q hd; cases hd
  | succ fu ih =>
    intro v1 v2 s h hM f q hd kk
    unfold l_Mo_settle_7 at hd
    refine am_steps ok_Mo_settle 3 (x' := (if (250 : Int32) ≤ v2 then 43 else 14, [some (.ref 22), some (.int v1), some (.int v2)], [], h, 0, 0)) rfl (Nat.le_of_ble_eq_true rfl) (Nat.le_of_ble_eq_true rfl) ?_
    refine am_if (fun hc10 => ?_) (fun hc10 => ?_)
    · rw [if_pos hc10] at hd
      refine am_drop 1 ?_
      refine am_drop 2 ?_
      cases hd; exact kk h hM f
    · rw [if_neg hc10] at hd
      refine am_steps ok_Mo_settle 2 (x' := (if (v1 : Int32) < 0 then 43 else 18, [some (.ref 22), some (.int v1), some (.int v2)], [], h, 0, 0)) rfl (Nat.le_of_ble_eq_true rfl) (Nat.le_of_ble_eq_true rfl) ?_
      refine am_if (fun hc11 => ?_) (fun hc11 => ?_)
      · rw [if_pos hc11] at hd
        refine am_drop 1 ?_
        refine am_drop 2 ?_
        cases hd; exact kk h hM f
      · rw [if_neg hc11] at hd
        refine am_steps ok_Mo_settle 2 (x' := (20, [some (.ref 22), some (.int v1), some (.int v2)], [.int v1, .ref 22], h, 0, 0)) rfl (Nat.le_of_ble_eq_true rfl) (Nat.le_of_ble_eq_true rfl) ?_
        obtain ⟨q12, hq13, hd14⟩ := Option.bind_eq_some_iff.mp hd; clear hd; have hd := hd14; clear hd14
        refine ar_cv ok_Mo_settle hk_Mo_done rfl rfl (As := [.int v1]) (ad := 22) (rest := []) rfl rfl hM.1 (Nat.le_of_ble_eq_true rfl) (k_Mo_done v1 s h hM q12 hq13) (Nat.le_of_ble_eq_true rfl) (Nat.le_of_ble_eq_true rfl) (Nat.le_of_ble_eq_true rfl) (Nat.le_of_ble_eq_true rfl) (pc' := 23) rfl (fun r15 h17 z16 => ?_)
        obtain ⟨rfl, hM18, g20⟩ := z16
        have f19 := mF.tr f g20
        show am_S _ _ _ _ _ _ _ (23, [some (.ref 22), some (.int v1), some (.int v2)], [], h17, 0, 0) _
        refine am_steps ok_Mo_settle 2 (x' := (25, [some (.ref 22), some (.int v1), some (.int v2)], [.int v1, .ref 22], h17, 0, 0)) rfl (Nat.le_of_ble_eq_true rfl) (Nat.le_of_ble_eq_true rfl) ?_
        obtain ⟨q21, hq22, hd23⟩ := Option.bind_eq_some_iff.mp hd; clear hd; have hd := hd23; clear hd23
        refine ar_cv ok_Mo_settle hk_Mo_drop rfl rfl (As := [.int v1]) (ad := 22) (rest := []) rfl rfl hM18.1 (Nat.le_of_ble_eq_true rfl) (k_Mo_drop v1 q12 h17 hM18 q21 hq22) (Nat.le_of_ble_eq_true rfl) (Nat.le_of_ble_eq_true rfl) (Nat.le_of_ble_eq_true rfl) (Nat.le_of_ble_eq_true rfl) (pc' := 28) rfl (fun r24 h26 z25 => ?_)
        obtain ⟨rfl, hM27, g29⟩ := z25
        have f28 := mF.tr f19 g29
        show am_S _ _ _ _ _ _ _ (28, [some (.ref 22), some (.int v1), some (.int v2)], [], h26, 0, 0) _
        refine am_steps ok_Mo_settle 1 (x' := (29, [some (.ref 22), some (.int v1), some (.int v2)], [.ref 22], h26, 0, 0)) rfl (Nat.le_of_ble_eq_true rfl) (Nat.le_of_ble_eq_true rfl) ?_
        obtain ⟨q30, hq31, hd32⟩ := Option.bind_eq_some_iff.mp hd; clear hd; have hd := hd32; clear hd32
        refine ar_cv ok_Mo_settle hk_Mo_check rfl rfl (As := []) (ad := 22) (rest := []) rfl rfl hM27.1 (Nat.le_of_ble_eq_true rfl) (k_Mo_check  q21 h26 hM27 q30 hq31) (Nat.le_of_ble_eq_true rfl) (Nat.le_of_ble_eq_true rfl) (Nat.le_of_ble_eq_true rfl) (Nat.le_of_ble_eq_true rfl) (pc' := 32) rfl (fun r33 h35 z34 => ?_)
        obtain ⟨rfl, hM36, g38⟩ := z34
        have f37 := mF.tr f28 g38
        show am_S _ _ _ _ _ _ _ (32, [some (.ref 22), some (.int v1), some (.int v2)], [], h35, 0, 0) _
        refine am_steps ok_Mo_settle 1 (x' := (33, [some (.ref 22), some (.int v1), some (.int v2)], [.ref 22], h35, 0, 0)) rfl (Nat.le_of_ble_eq_true rfl) (Nat.le_of_ble_eq_true rfl) ?_
        obtain ⟨q39, hq40, hd41⟩ := Option.bind_eq_some_iff.mp hd; clear hd; have hd := hd41; clear hd41
        refine ar_cv ok_Mo_settle hk_Mo_firstAble rfl rfl (As := []) (ad := 22) (rest := []) rfl rfl hM36.1 (Nat.le_of_ble_eq_true rfl) (k_Mo_firstAble  q30 h35 hM36 q39 hq40) (Nat.le_of_ble_eq_true rfl) (Nat.le_of_ble_eq_true rfl) (Nat.le_of_ble_eq_true rfl) (Nat.le_of_ble_eq_true rfl) (pc' := 36) rfl (fun r42 h44 z43 => ?_)
        obtain ⟨rfl, hM45, g47⟩ := z43
        have f46 := mF.tr f37 g47
        show am_S _ _ _ _ _ _ _ (36, [some (.ref 22), some (.int v1), some (.int v2)], [.int q39.1], h44, 0, 0) _
        refine am_steps ok_Mo_settle 3 (x' := (7, [some (.ref 22), some (.int q39.1), some (.int (v2 + 1))], [], h44, 0, 0)) rfl (Nat.le_of_ble_eq_true rfl) (Nat.le_of_ble_eq_true rfl) ?_
        exact ih q39.1 (v2 + 1) q39.2 h44 hM45 f46 q hd kk
def d_Mo_settle  (s : mS) : Option (mS) := (d_Mo_firstAble  s).bind fun q1 => ((l_Mo_settle_7 100000 q1.1 0 q1.2).bind fun q48 => (some q48))
set_option maxHeartbeats 4000000 in
set_option maxRecDepth 100000 in
theorem k_Mo_settle  (s : mS) (h0 : am_H) (hM : RM s h0) (q : mS) (hd : d_Mo_settle  s = some q) : am_Me am_Pr none 4 107 0 0 68 [.ref 22] h0 (mQv q h0) := by
  refine am_enter (d := hd_Mo_settle) rfl (by decide +kernel) (Nat.le_of_ble_eq_true rfl) ?_
  show am_S _ _ _ _ _ _ _ (0, [some (.ref 22), none, none], [], h0, 0, 0) _
  unfold d_Mo_settle at hd
  refine am_steps ok_Mo_settle 1 (x' := (1, [some (.ref 22), none, none], [.ref 22], h0, 0, 0)) rfl (Nat.le_of_ble_eq_true rfl) (Nat.le_of_ble_eq_true rfl) ?_
  obtain ⟨q1, hq2, hd3⟩ := Option.bind_eq_some_iff.mp hd; clear hd; have hd := hd3; clear hd3
  refine ar_cv ok_Mo_settle hk_Mo_firstAble rfl rfl (As := []) (ad := 22) (rest := []) rfl rfl hM.1 (Nat.le_of_ble_eq_true rfl) (k_Mo_firstAble  s h0 hM q1 hq2) (Nat.le_of_ble_eq_true rfl) (Nat.le_of_ble_eq_true rfl) (Nat.le_of_ble_eq_true rfl) (Nat.le_of_ble_eq_true rfl) (pc' := 4) rfl (fun r4 h6 z5 => ?_)
  obtain ⟨rfl, hM7, g9⟩ := z5
  have f8 := mF.tr (mF.rf) g9
  show am_S _ _ _ _ _ _ _ (4, [some (.ref 22), none, none], [.int q1.1], h6, 0, 0) _
  refine am_steps ok_Mo_settle 3 (x' := (7, [some (.ref 22), some (.int q1.1), some (.int 0)], [], h6, 0, 0)) rfl (Nat.le_of_ble_eq_true rfl) (Nat.le_of_ble_eq_true rfl) ?_
  obtain ⟨q48, hq49, hd50⟩ := Option.bind_eq_some_iff.mp hd; clear hd; have hd := hd50; clear hd50
  refine L_Mo_settle_7 h0 100000 q1.1 0 q1.2 h6 hM7 f8 q48 hq49 (fun h51 hM52 f53 => ?_)
  show am_S _ _ _ _ _ _ _ (43, [some (.ref 22), none, none], [], h51, 0, 0) _
  cases hd; exact am_ret ok_Mo_settle rfl (Nat.le_of_ble_eq_true rfl) (Nat.le_of_ble_eq_true rfl) ⟨rfl, hM52, f53⟩
def l_Mo_close_26 : Nat → Int32 → Int32 → Int32 → Int32 → mS → Option (mS)
  | 0, _, _, _, _, _ => none
  | fu + 1, v1, v2, v3, v4, s => if (v3 : Int32) ≤ v4 then (some s) else ((am_ix v4 16).bind fun j15 => ((d_Mo_net v2 (s.2.2.1 57 j15) s).bind fun q18 => ((if (0 : Int32) ≤ (lg_cmp q18 0) then (some s) else ((am_ix (s.2.2.1 57 j15) 81920).bind fun j37 => (if ((s.2.2.1 58 j37) : Int32) = 0 then (some s) else ((am_ix v2 250).bind fun j41 => (some (mA s 49 j41 (am_bn 3 0))))))).bind fun (u29 : mS) => (l_Mo_close_26 fu v1 v2 v3 (v4 + 1) u29))))
set_option maxHeartbeats 4000000 in
set_option maxRecDepth 100000 in
theorem L_Mo_close_26 {Q : Option Value → am_H → Prop} (h0 : am_H) : ∀ (fu : Nat) (v1 : Int32) (v2 : Int32) (v3 : Int32) (v4 : Int32) (s : mS) (h : am_H), RM s h → mF h0 h → ∀ q : mS, l_Mo_close_26 fu v1 v2 v3 v4 s = some q → (∀ h' : am_H, RM q h' → mF h0 h' → am_S am_Pr none 3 71 0 0 69 (77, [some (.ref 22), some (.int v1), some (.int v2), some (.int v3), none], [], h', 0, 0) Q) → am_S am_Pr none 3 71 0 0 69 (26, [some (.ref 22), some (.int v1), some (.int v2), some (.int v3), some (.int v4)], [], h, 0, 0) Q := by
  intro fu
  induction fu with
  | zero => intro v1 v2 v3 v4 s h hM f q hd; cases hd
  | succ fu ih =>
    intro v1 v2 v3 v4 s h hM f q hd kk
    unfold l_Mo_close_26 at hd
    refine am_steps ok_Mo_close 3 (x' := (if (v3 : Int32) ≤ v4 then 77 else 32, [some (.ref 22), some (.int v1), some (.int v2), some (.int v3), some (.int v4)], [], h, 0, 0)) rfl (Nat.le_of_ble_eq_true rfl) (Nat.le_of_ble_eq_true rfl) ?_
    refine am_if (fun hc14 => ?_) (fun hc14 => ?_)
    · rw [if_pos hc14] at hd
      refine am_drop 4 ?_
      cases hd; exact kk h hM f
    · rw [if_neg hc14] at hd
      refine am_steps ok_Mo_close 3 (x' := (35, [some (.ref 22), some (.int v1), some (.int v2), some (.int v3), some (.int v4)], [.ref 22, .int v2, .ref 22], h, 0, 0)) rfl (Nat.le_of_ble_eq_true rfl) (Nat.le_of_ble_eq_true rfl) ?_
      refine mr_get ok_Mo_close rfl hM (v := .ref 57) rfl (pc' := 38) rfl (Nat.le_of_ble_eq_true rfl) (Nat.le_of_ble_eq_true rfl) ?_
      refine am_steps ok_Mo_close 1 (x' := (40, [some (.ref 22), some (.int v1), some (.int v2), some (.int v3), some (.int v4)], [.int v4, .ref 57, .int v2, .ref 22], h, 0, 0)) rfl (Nat.le_of_ble_eq_true rfl) (Nat.le_of_ble_eq_true rfl) ?_
      obtain ⟨j15, hx16, hd17⟩ := Option.bind_eq_some_iff.mp hd; clear hd; have hd := hd17; clear hd17
      refine mr_iald ok_Mo_close rfl hM (N := 16) (by decide) hx16 (pc' := 41) rfl (Nat.le_of_ble_eq_true rfl) (Nat.le_of_ble_eq_true rfl) ?_
      obtain ⟨q18, hq19, hd20⟩ := Option.bind_eq_some_iff.mp hd; clear hd; have hd := hd20; clear hd20
      refine ar_cv ok_Mo_close hk_Mo_net rfl rfl (As := [.int v2, .int (s.2.2.1 57 j15)]) (ad := 22) (rest := []) rfl rfl hM.1 (Nat.le_of_ble_eq_true rfl) (k_Mo_net v2 (s.2.2.1 57 j15) s h hM q18 hq19) (Nat.le_of_ble_eq_true rfl) (Nat.le_of_ble_eq_true rfl) (Nat.le_of_ble_eq_true rfl) (Nat.le_of_ble_eq_true rfl) (pc' := 44) rfl (fun r21 h23 z22 => ?_)
      obtain ⟨z27, z28⟩ := z22; subst z27; rw [z28]
      show am_S _ _ _ _ _ _ _ (44, [some (.ref 22), some (.int v1), some (.int v2), some (.int v3), some (.int v4)], [.long q18], h, 0, 0) _
      refine am_steps ok_Mo_close 3 (x' := (if (0 : Int32) ≤ (lg_cmp q18 0) then 71 else 49, [some (.ref 22), some (.int v1), some (.int v2), some (.int v3), some (.int v4)], [], h, 0, 0)) rfl (Nat.le_of_ble_eq_true rfl) (Nat.le_of_ble_eq_true rfl) ?_
      obtain ⟨u29, hA31, hB32⟩ := Option.bind_eq_some_iff.mp hd; clear hd
      have K30 : ∀ h' : am_H, RM u29 h' → mF h0 h' → am_S am_Pr none 3 71 0 0 69 (71, [some (.ref 22), some (.int v1), some (.int v2), some (.int v3), some (.int v4)], [], h', 0, 0) Q := by
        have hd := hB32
        intro h33 hM34 f35
        refine am_steps ok_Mo_close 2 (x' := (26, [some (.ref 22), some (.int v1), some (.int v2), some (.int v3), some (.int (v4 + 1))], [], h33, 0, 0)) rfl (Nat.le_of_ble_eq_true rfl) (Nat.le_of_ble_eq_true rfl) ?_
        exact ih v1 v2 v3 (v4 + 1) u29 h33 hM34 f35 q hd kk
      clear hB32; have hd := hA31; clear hA31
      refine am_if (fun hc36 => ?_) (fun hc36 => ?_)
      · rw [if_pos hc36] at hd
        cases hd; exact K30 h hM f
      · rw [if_neg hc36] at hd
        refine am_steps ok_Mo_close 1 (x' := (50, [some (.ref 22), some (.int v1), some (.int v2), some (.int v3), some (.int v4)], [.ref 22], h, 0, 0)) rfl (Nat.le_of_ble_eq_true rfl) (Nat.le_of_ble_eq_true rfl) ?_
        refine mr_get ok_Mo_close rfl hM (v := .ref 58) rfl (pc' := 53) rfl (Nat.le_of_ble_eq_true rfl) (Nat.le_of_ble_eq_true rfl) ?_
        refine am_steps ok_Mo_close 1 (x' := (54, [some (.ref 22), some (.int v1), some (.int v2), some (.int v3), some (.int v4)], [.ref 22, .ref 58], h, 0, 0)) rfl (Nat.le_of_ble_eq_true rfl) (Nat.le_of_ble_eq_true rfl) ?_
        refine mr_get ok_Mo_close rfl hM (v := .ref 57) rfl (pc' := 57) rfl (Nat.le_of_ble_eq_true rfl) (Nat.le_of_ble_eq_true rfl) ?_
        refine am_steps ok_Mo_close 1 (x' := (59, [some (.ref 22), some (.int v1), some (.int v2), some (.int v3), some (.int v4)], [.int v4, .ref 57, .ref 58], h, 0, 0)) rfl (Nat.le_of_ble_eq_true rfl) (Nat.le_of_ble_eq_true rfl) ?_
        refine mr_iald ok_Mo_close rfl hM (N := 16) (by decide) hx16 (pc' := 60) rfl (Nat.le_of_ble_eq_true rfl) (Nat.le_of_ble_eq_true rfl) ?_
        obtain ⟨j37, hx38, hd39⟩ := Option.bind_eq_some_iff.mp hd; clear hd; have hd := hd39; clear hd39
        refine mr_bald ok_Mo_close rfl hM (N := 81920) (by decide) (Or.inr rfl) hx38 (pc' := 61) rfl (Nat.le_of_ble_eq_true rfl) (Nat.le_of_ble_eq_true rfl) ?_
        refine am_steps ok_Mo_close 1 (x' := (if ((s.2.2.1 58 j37) : Int32) = 0 then 71 else 64, [some (.ref 22), some (.int v1), some (.int v2), some (.int v3), some (.int v4)], [], h, 0, 0)) rfl (Nat.le_of_ble_eq_true rfl) (Nat.le_of_ble_eq_true rfl) ?_
        refine am_if (fun hc40 => ?_) (fun hc40 => ?_)
        · rw [if_pos hc40] at hd
          cases hd; exact K30 h hM f
        · rw [if_neg hc40] at hd
          refine am_steps ok_Mo_close 1 (x' := (65, [some (.ref 22), some (.int v1), some (.int v2), some (.int v3), some (.int v4)], [.ref 22], h, 0, 0)) rfl (Nat.le_of_ble_eq_true rfl) (Nat.le_of_ble_eq_true rfl) ?_
          refine mr_get ok_Mo_close rfl hM (v := .ref 49) rfl (pc' := 68) rfl (Nat.le_of_ble_eq_true rfl) (Nat.le_of_ble_eq_true rfl) ?_
          refine am_steps ok_Mo_close 2 (x' := (70, [some (.ref 22), some (.int v1), some (.int v2), some (.int v3), some (.int v4)], [.int 0, .int v2, .ref 49], h, 0, 0)) rfl (Nat.le_of_ble_eq_true rfl) (Nat.le_of_ble_eq_true rfl) ?_
          obtain ⟨j41, hx42, hd43⟩ := Option.bind_eq_some_iff.mp hd; clear hd; have hd := hd43; clear hd43
          refine mr_bast ok_Mo_close rfl hM (N := 250) (by decide) (Or.inr rfl) hx42 (pc' := 71) rfl (Nat.le_of_ble_eq_true rfl) (Nat.le_of_ble_eq_true rfl) (fun h44 hM45 g47 => ?_)
          have f46 := mF.tr f g47
          cases hd; exact K30 h44 hM45 f46
def l_Mo_close_2 : Nat → Int32 → mS → Option (mS)
  | 0, _, _ => none
  | fu + 1, v1, s => if ((s.1 32) : Int32) ≤ v1 then (some s) else ((am_ix v1 250).bind fun j2 => ((d_Mo_places (s.2.2.1 55 j2) s).bind fun q5 => ((l_Mo_close_26 100000 v1 (s.2.2.1 55 j2) q5.1 0 q5.2).bind fun q48 => ((am_ix (s.2.2.1 55 j2) 250).bind fun j54 => ((if ¬ ((q48.2.2.1 49 j54) : Int32) = 0 then (some q48) else ((d_Mo_touchTaken (s.2.2.1 55 j2) q48).bind fun q65 => (some q65))).bind fun (u57 : mS) => (l_Mo_close_2 fu (v1 + 1) u57))))))
set_option maxHeartbeats 4000000 in
set_option maxRecDepth 100000 in
theorem L_Mo_close_2 {Q : Option Value → am_H → Prop} (h0 : am_H) : ∀ (fu : Nat) (v1 : Int32) (s : mS) (h : am_H), RM s h → mF h0 h → ∀ q : mS, l_Mo_close_2 fu v1 s = some q → (∀ h' : am_H, RM q h' → mF h0 h' → am_S am_Pr none 3 71 0 0 69 (97, [some (.ref 22), none, none, none, none], [], h', 0, 0) Q) → am_S am_Pr none 3 71 0 0 69 (2, [some (.ref 22), some (.int v1), none, none, none], [], h, 0, 0) Q := by
  intro fu
  induction fu with
  | zero => intro v1 s h hM f q hd; cases hd
  | succ fu ih =>
    intro v1 s h hM f q hd kk
    unfold l_Mo_close_2 at hd
    refine am_steps ok_Mo_close 2 (x' := (4, [some (.ref 22), some (.int v1), none, none, none], [.ref 22, .int v1], h, 0, 0)) rfl (Nat.le_of_ble_eq_true rfl) (Nat.le_of_ble_eq_true rfl) ?_
    refine mr_get ok_Mo_close rfl hM (v := .int (s.1 32)) rfl (pc' := 7) rfl (Nat.le_of_ble_eq_true rfl) (Nat.le_of_ble_eq_true rfl) ?_
    refine am_steps ok_Mo_close 1 (x' := (if ((s.1 32) : Int32) ≤ v1 then 97 else 10, [some (.ref 22), some (.int v1), none, none, none], [], h, 0, 0)) rfl (Nat.le_of_ble_eq_true rfl) (Nat.le_of_ble_eq_true rfl) ?_
    refine am_if (fun hc1 => ?_) (fun hc1 => ?_)
    · rw [if_pos hc1] at hd
      refine am_drop 1 ?_
      cases hd; exact kk h hM f
    · rw [if_neg hc1] at hd
      refine am_steps ok_Mo_close 1 (x' := (11, [some (.ref 22), some (.int v1), none, none, none], [.ref 22], h, 0, 0)) rfl (Nat.le_of_ble_eq_true rfl) (Nat.le_of_ble_eq_true rfl) ?_
      refine mr_get ok_Mo_close rfl hM (v := .ref 55) rfl (pc' := 14) rfl (Nat.le_of_ble_eq_true rfl) (Nat.le_of_ble_eq_true rfl) ?_
      refine am_steps ok_Mo_close 1 (x' := (15, [some (.ref 22), some (.int v1), none, none, none], [.int v1, .ref 55], h, 0, 0)) rfl (Nat.le_of_ble_eq_true rfl) (Nat.le_of_ble_eq_true rfl) ?_
      obtain ⟨j2, hx3, hd4⟩ := Option.bind_eq_some_iff.mp hd; clear hd; have hd := hd4; clear hd4
      refine mr_iald ok_Mo_close rfl hM (N := 250) (by decide) hx3 (pc' := 16) rfl (Nat.le_of_ble_eq_true rfl) (Nat.le_of_ble_eq_true rfl) ?_
      refine am_steps ok_Mo_close 3 (x' := (19, [some (.ref 22), some (.int v1), some (.int (s.2.2.1 55 j2)), none, none], [.int (s.2.2.1 55 j2), .ref 22], h, 0, 0)) rfl (Nat.le_of_ble_eq_true rfl) (Nat.le_of_ble_eq_true rfl) ?_
      obtain ⟨q5, hq6, hd7⟩ := Option.bind_eq_some_iff.mp hd; clear hd; have hd := hd7; clear hd7
      refine ar_cv ok_Mo_close hk_Mo_places rfl rfl (As := [.int (s.2.2.1 55 j2)]) (ad := 22) (rest := []) rfl rfl hM.1 (Nat.le_of_ble_eq_true rfl) (k_Mo_places (s.2.2.1 55 j2) s h hM q5 hq6) (Nat.le_of_ble_eq_true rfl) (Nat.le_of_ble_eq_true rfl) (Nat.le_of_ble_eq_true rfl) (Nat.le_of_ble_eq_true rfl) (pc' := 22) rfl (fun r8 h10 z9 => ?_)
      obtain ⟨rfl, hM11, g13⟩ := z9
      have f12 := mF.tr f g13
      show am_S _ _ _ _ _ _ _ (22, [some (.ref 22), some (.int v1), some (.int (s.2.2.1 55 j2)), none, none], [.int q5.1], h10, 0, 0) _
      refine am_steps ok_Mo_close 3 (x' := (26, [some (.ref 22), some (.int v1), some (.int (s.2.2.1 55 j2)), some (.int q5.1), some (.int 0)], [], h10, 0, 0)) rfl (Nat.le_of_ble_eq_true rfl) (Nat.le_of_ble_eq_true rfl) ?_
      obtain ⟨q48, hq49, hd50⟩ := Option.bind_eq_some_iff.mp hd; clear hd; have hd := hd50; clear hd50
      refine L_Mo_close_26 h0 100000 v1 (s.2.2.1 55 j2) q5.1 0 q5.2 h10 hM11 f12 q48 hq49 (fun h51 hM52 f53 => ?_)
      show am_S _ _ _ _ _ _ _ (77, [some (.ref 22), some (.int v1), some (.int (s.2.2.1 55 j2)), some (.int q5.1), none], [], h51, 0, 0) _
      refine am_steps ok_Mo_close 1 (x' := (78, [some (.ref 22), some (.int v1), some (.int (s.2.2.1 55 j2)), some (.int q5.1), none], [.ref 22], h51, 0, 0)) rfl (Nat.le_of_ble_eq_true rfl) (Nat.le_of_ble_eq_true rfl) ?_
      refine mr_get ok_Mo_close rfl hM52 (v := .ref 49) rfl (pc' := 81) rfl (Nat.le_of_ble_eq_true rfl) (Nat.le_of_ble_eq_true rfl) ?_
      refine am_steps ok_Mo_close 1 (x' := (82, [some (.ref 22), some (.int v1), some (.int (s.2.2.1 55 j2)), some (.int q5.1), none], [.int (s.2.2.1 55 j2), .ref 49], h51, 0, 0)) rfl (Nat.le_of_ble_eq_true rfl) (Nat.le_of_ble_eq_true rfl) ?_
      obtain ⟨j54, hx55, hd56⟩ := Option.bind_eq_some_iff.mp hd; clear hd; have hd := hd56; clear hd56
      refine mr_bald ok_Mo_close rfl hM52 (N := 250) (by decide) (Or.inr rfl) hx55 (pc' := 83) rfl (Nat.le_of_ble_eq_true rfl) (Nat.le_of_ble_eq_true rfl) ?_
      refine am_steps ok_Mo_close 1 (x' := (if ¬ ((q48.2.2.1 49 j54) : Int32) = 0 then 91 else 86, [some (.ref 22), some (.int v1), some (.int (s.2.2.1 55 j2)), some (.int q5.1), none], [], h51, 0, 0)) rfl (Nat.le_of_ble_eq_true rfl) (Nat.le_of_ble_eq_true rfl) ?_
      obtain ⟨u57, hA59, hB60⟩ := Option.bind_eq_some_iff.mp hd; clear hd
      have K58 : ∀ h' : am_H, RM u57 h' → mF h0 h' → am_S am_Pr none 3 71 0 0 69 (91, [some (.ref 22), some (.int v1), none, none, none], [], h', 0, 0) Q := by
        have hd := hB60
        intro h61 hM62 f63
        refine am_steps ok_Mo_close 2 (x' := (2, [some (.ref 22), some (.int (v1 + 1)), none, none, none], [], h61, 0, 0)) rfl (Nat.le_of_ble_eq_true rfl) (Nat.le_of_ble_eq_true rfl) ?_
        exact ih (v1 + 1) u57 h61 hM62 f63 q hd kk
      clear hB60; have hd := hA59; clear hA59
      refine am_if (fun hc64 => ?_) (fun hc64 => ?_)
      · rw [if_pos hc64] at hd
        refine am_drop 2 ?_
        refine am_drop 3 ?_
        cases hd; exact K58 h51 hM52 f53
      · rw [if_neg hc64] at hd
        refine am_steps ok_Mo_close 2 (x' := (88, [some (.ref 22), some (.int v1), some (.int (s.2.2.1 55 j2)), some (.int q5.1), none], [.int (s.2.2.1 55 j2), .ref 22], h51, 0, 0)) rfl (Nat.le_of_ble_eq_true rfl) (Nat.le_of_ble_eq_true rfl) ?_
        obtain ⟨q65, hq66, hd67⟩ := Option.bind_eq_some_iff.mp hd; clear hd; have hd := hd67; clear hd67
        refine ar_cv ok_Mo_close hk_Mo_touchTaken rfl rfl (As := [.int (s.2.2.1 55 j2)]) (ad := 22) (rest := []) rfl rfl hM52.1 (Nat.le_of_ble_eq_true rfl) (k_Mo_touchTaken (s.2.2.1 55 j2) q48 h51 hM52 q65 hq66) (Nat.le_of_ble_eq_true rfl) (Nat.le_of_ble_eq_true rfl) (Nat.le_of_ble_eq_true rfl) (Nat.le_of_ble_eq_true rfl) (pc' := 91) rfl (fun r68 h70 z69 => ?_)
        obtain ⟨rfl, hM71, g73⟩ := z69
        have f72 := mF.tr f53 g73
        show am_S _ _ _ _ _ _ _ (91, [some (.ref 22), some (.int v1), some (.int (s.2.2.1 55 j2)), some (.int q5.1), none], [], h70, 0, 0) _
        refine am_drop 2 ?_
        refine am_drop 3 ?_
        cases hd; exact K58 h70 hM71 f72
def d_Mo_close  (s : mS) : Option (mS) := (l_Mo_close_2 100000 0 s).bind fun q74 => ((d_Mo_untouch  q74).bind fun q80 => (some q80))
set_option maxHeartbeats 4000000 in
set_option maxRecDepth 100000 in
theorem k_Mo_close  (s : mS) (h0 : am_H) (hM : RM s h0) (q : mS) (hd : d_Mo_close  s = some q) : am_Me am_Pr none 3 71 0 0 69 [.ref 22] h0 (mQv q h0) := by
  refine am_enter (d := hd_Mo_close) rfl (by decide +kernel) (Nat.le_of_ble_eq_true rfl) ?_
  show am_S _ _ _ _ _ _ _ (0, [some (.ref 22), none, none, none, none], [], h0, 0, 0) _
  unfold d_Mo_close at hd
  refine am_steps ok_Mo_close 2 (x' := (2, [some (.ref 22), some (.int 0), none, none, none], [], h0, 0, 0)) rfl (Nat.le_of_ble_eq_true rfl) (Nat.le_of_ble_eq_true rfl) ?_
  obtain ⟨q74, hq75, hd76⟩ := Option.bind_eq_some_iff.mp hd; clear hd; have hd := hd76; clear hd76
  refine L_Mo_close_2 h0 100000 0 s h0 hM (mF.rf) q74 hq75 (fun h77 hM78 f79 => ?_)
  show am_S _ _ _ _ _ _ _ (97, [some (.ref 22), none, none, none, none], [], h77, 0, 0) _
  refine am_steps ok_Mo_close 1 (x' := (98, [some (.ref 22), none, none, none, none], [.ref 22], h77, 0, 0)) rfl (Nat.le_of_ble_eq_true rfl) (Nat.le_of_ble_eq_true rfl) ?_
  obtain ⟨q80, hq81, hd82⟩ := Option.bind_eq_some_iff.mp hd; clear hd; have hd := hd82; clear hd82
  refine ar_cv ok_Mo_close hk_Mo_untouch rfl rfl (As := []) (ad := 22) (rest := []) rfl rfl hM78.1 (Nat.le_of_ble_eq_true rfl) (k_Mo_untouch  q74 h77 hM78 q80 hq81) (Nat.le_of_ble_eq_true rfl) (Nat.le_of_ble_eq_true rfl) (Nat.le_of_ble_eq_true rfl) (Nat.le_of_ble_eq_true rfl) (pc' := 101) rfl (fun r83 h85 z84 => ?_)
  obtain ⟨rfl, hM86, g88⟩ := z84
  have f87 := mF.tr f79 g88
  show am_S _ _ _ _ _ _ _ (101, [some (.ref 22), none, none, none, none], [], h85, 0, 0) _
  cases hd; exact am_ret ok_Mo_close rfl (Nat.le_of_ble_eq_true rfl) (Nat.le_of_ble_eq_true rfl) ⟨rfl, hM86, f87⟩
