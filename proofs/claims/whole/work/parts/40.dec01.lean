/-! Methods of the reference as functions of its state. -/
def l_Mo_leavesOne_4 : Nat → Int32 → Int32 → mS → Option (Int32)
  | 0, _, _, _ => none
  | fu + 1, v1, v2, s => if ((s.1 3) : Int32) ≤ v2 then (some v1) else ((am_ix v2 400).bind fun j2 => ((d_Mo_isDigit (s.2.2.1 24 j2)).bind fun q5 => ((if (q5 : Int32) = 0 then (some (((((100 * v1) + (s.2.2.1 24 j2)) - 65) + 10) - ((((100 * v1) + (s.2.2.1 24 j2)) - 65) + 10) / 97 * 97)) else (some ((((10 * v1) + (s.2.2.1 24 j2)) - 48) - (((10 * v1) + (s.2.2.1 24 j2)) - 48) / 97 * 97))).bind fun (u16 : Int32) => (l_Mo_leavesOne_4 fu u16 (v2 + 1) s))))
set_option maxHeartbeats 4000000 in
set_option maxRecDepth 100000 in
theorem L_Mo_leavesOne_4 {Q : Option Value → am_H → Prop} (s : mS) (h : am_H) (hM : RM s h) : ∀ (fu : Nat) (v1 : Int32) (v2 : Int32) (q : Int32), l_Mo_leavesOne_4 fu v1 v2 s = some q → am_S am_Pr none 1 20 0 0 30 (63, [some (.ref 22), some (.int q), none, none], [], h, 0, 0) Q → am_S am_Pr none 1 20 0 0 30 (4, [some (.ref 22), some (.int v1), some (.int v2), none], [], h, 0, 0) Q := by
  intro fu
  induction fu with
  | zero => intro v1 v2 q hd; cases hd
  | succ fu ih =>
    intro v1 v2 q hd kk
    unfold l_Mo_leavesOne_4 at hd
    refine am_steps ok_Mo_leavesOne 2 (x' := (6, [some (.ref 22), some (.int v1), some (.int v2), none], [.ref 22, .int v2], h, 0, 0)) rfl (Nat.le_of_ble_eq_true rfl) (Nat.le_of_ble_eq_true rfl) ?_
    refine mr_get ok_Mo_leavesOne rfl hM (v := .int (s.1 3)) rfl (pc' := 9) rfl (Nat.le_of_ble_eq_true rfl) (Nat.le_of_ble_eq_true rfl) ?_
    refine am_steps ok_Mo_leavesOne 1 (x' := (if ((s.1 3) : Int32) ≤ v2 then 63 else 12, [some (.ref 22), some (.int v1), some (.int v2), none], [], h, 0, 0)) rfl (Nat.le_of_ble_eq_true rfl) (Nat.le_of_ble_eq_true rfl) ?_
    refine am_if (fun hc1 => ?_) (fun hc1 => ?_)
    · rw [if_pos hc1] at hd
      refine am_drop 2 ?_
      cases hd; exact kk
    · rw [if_neg hc1] at hd
      refine am_steps ok_Mo_leavesOne 1 (x' := (13, [some (.ref 22), some (.int v1), some (.int v2), none], [.ref 22], h, 0, 0)) rfl (Nat.le_of_ble_eq_true rfl) (Nat.le_of_ble_eq_true rfl) ?_
      refine mr_get ok_Mo_leavesOne rfl hM (v := .ref 24) rfl (pc' := 16) rfl (Nat.le_of_ble_eq_true rfl) (Nat.le_of_ble_eq_true rfl) ?_
      refine am_steps ok_Mo_leavesOne 1 (x' := (17, [some (.ref 22), some (.int v1), some (.int v2), none], [.int v2, .ref 24], h, 0, 0)) rfl (Nat.le_of_ble_eq_true rfl) (Nat.le_of_ble_eq_true rfl) ?_
      obtain ⟨j2, hx3, hd4⟩ := Option.bind_eq_some_iff.mp hd; clear hd; have hd := hd4; clear hd4
      refine mr_bald ok_Mo_leavesOne rfl hM (N := 400) (by decide) (Or.inl rfl) hx3 (pc' := 18) rfl (Nat.le_of_ble_eq_true rfl) (Nat.le_of_ble_eq_true rfl) ?_
      refine am_steps ok_Mo_leavesOne 2 (x' := (20, [some (.ref 22), some (.int v1), some (.int v2), some (.int (s.2.2.1 24 j2))], [.int (s.2.2.1 24 j2)], h, 0, 0)) rfl (Nat.le_of_ble_eq_true rfl) (Nat.le_of_ble_eq_true rfl) ?_
      obtain ⟨q5, hq6, hd7⟩ := Option.bind_eq_some_iff.mp hd; clear hd; have hd := hd7; clear hd7
      refine am_call ok_Mo_leavesOne hk_Mo_isDigit rfl (args' := [.int (s.2.2.1 24 j2)]) (rest := []) rfl (k_Mo_isDigit (s.2.2.1 24 j2) h q5 hq6) (Nat.le_of_ble_eq_true rfl) (Nat.le_of_ble_eq_true rfl) (Nat.le_of_ble_eq_true rfl) (Nat.le_of_ble_eq_true rfl) (fun r8 h10 z9 => ?_)
      obtain ⟨z14, z15⟩ := z9; subst z14; rw [z15]
      show am_S _ _ _ _ _ _ _ (23, [some (.ref 22), some (.int v1), some (.int v2), some (.int (s.2.2.1 24 j2))], [.int q5], h, 0, 0) _
      refine am_steps ok_Mo_leavesOne 1 (x' := (if (q5 : Int32) = 0 then 41 else 26, [some (.ref 22), some (.int v1), some (.int v2), some (.int (s.2.2.1 24 j2))], [], h, 0, 0)) rfl (Nat.le_of_ble_eq_true rfl) (Nat.le_of_ble_eq_true rfl) ?_
      obtain ⟨u16, hA18, hB19⟩ := Option.bind_eq_some_iff.mp hd; clear hd
      have K17 : am_S am_Pr none 1 20 0 0 30 (56, [some (.ref 22), none, some (.int v2), none], [.int u16], h, 0, 0) Q := by
        have hd := hB19
        refine am_steps ok_Mo_leavesOne 3 (x' := (4, [some (.ref 22), some (.int u16), some (.int (v2 + 1)), none], [], h, 0, 0)) rfl (Nat.le_of_ble_eq_true rfl) (Nat.le_of_ble_eq_true rfl) ?_
        exact ih u16 (v2 + 1) q hd kk
      clear hB19; have hd := hA18; clear hA18
      refine am_if (fun hc20 => ?_) (fun hc20 => ?_)
      · rw [if_pos hc20] at hd
        refine am_steps ok_Mo_leavesOne 10 (x' := (55, [some (.ref 22), some (.int v1), some (.int v2), some (.int (s.2.2.1 24 j2))], [.int 97, .int ((((100 * v1) + (s.2.2.1 24 j2)) - 65) + 10)], h, 0, 0)) rfl (Nat.le_of_ble_eq_true rfl) (Nat.le_of_ble_eq_true rfl) ?_
        refine ar_irem ok_Mo_leavesOne rfl (by decide +kernel) (w := (((((100 * v1) + (s.2.2.1 24 j2)) - 65) + 10) - ((((100 * v1) + (s.2.2.1 24 j2)) - 65) + 10) / 97 * 97)) rfl (pc' := 56) rfl (Nat.le_of_ble_eq_true rfl) (Nat.le_of_ble_eq_true rfl) ?_
        refine am_drop 1 ?_
        refine am_drop 3 ?_
        cases hd; exact K17 
      · rw [if_neg hc20] at hd
        refine am_steps ok_Mo_leavesOne 8 (x' := (37, [some (.ref 22), some (.int v1), some (.int v2), some (.int (s.2.2.1 24 j2))], [.int 97, .int (((10 * v1) + (s.2.2.1 24 j2)) - 48)], h, 0, 0)) rfl (Nat.le_of_ble_eq_true rfl) (Nat.le_of_ble_eq_true rfl) ?_
        refine ar_irem ok_Mo_leavesOne rfl (by decide +kernel) (w := ((((10 * v1) + (s.2.2.1 24 j2)) - 48) - (((10 * v1) + (s.2.2.1 24 j2)) - 48) / 97 * 97)) rfl (pc' := 38) rfl (Nat.le_of_ble_eq_true rfl) (Nat.le_of_ble_eq_true rfl) ?_
        refine am_steps ok_Mo_leavesOne 1 (x' := (56, [some (.ref 22), some (.int v1), some (.int v2), some (.int (s.2.2.1 24 j2))], [.int ((((10 * v1) + (s.2.2.1 24 j2)) - 48) - (((10 * v1) + (s.2.2.1 24 j2)) - 48) / 97 * 97)], h, 0, 0)) rfl (Nat.le_of_ble_eq_true rfl) (Nat.le_of_ble_eq_true rfl) ?_
        refine am_drop 1 ?_
        refine am_drop 3 ?_
        cases hd; exact K17 
def d_Mo_leavesOne  (s : mS) : Option (Int32) := (l_Mo_leavesOne_4 100000 0 0 s).bind fun q21 => (if ¬ (q21 : Int32) = 1 then (some 0) else (some 1))
set_option maxHeartbeats 4000000 in
set_option maxRecDepth 100000 in
theorem k_Mo_leavesOne  (s : mS) (h0 : am_H) (hM : RM s h0) (q : Int32) (hd : d_Mo_leavesOne  s = some q) : am_Me am_Pr none 1 20 0 0 30 [.ref 22] h0 (am_is (some (.int q)) h0) := by
  refine am_enter (d := hd_Mo_leavesOne) rfl (by decide +kernel) (Nat.le_of_ble_eq_true rfl) ?_
  show am_S _ _ _ _ _ _ _ (0, [some (.ref 22), none, none, none], [], h0, 0, 0) _
  unfold d_Mo_leavesOne at hd
  refine am_steps ok_Mo_leavesOne 4 (x' := (4, [some (.ref 22), some (.int 0), some (.int 0), none], [], h0, 0, 0)) rfl (Nat.le_of_ble_eq_true rfl) (Nat.le_of_ble_eq_true rfl) ?_
  obtain ⟨q21, hq22, hd23⟩ := Option.bind_eq_some_iff.mp hd; clear hd; have hd := hd23; clear hd23
  refine L_Mo_leavesOne_4 s h0 hM 100000 0 0 q21 hq22 ?_
  show am_S _ _ _ _ _ _ _ (63, [some (.ref 22), some (.int q21), none, none], [], h0, 0, 0) _
  refine am_steps ok_Mo_leavesOne 3 (x' := (if ¬ (q21 : Int32) = 1 then 72 else 68, [some (.ref 22), some (.int q21), none, none], [], h0, 0, 0)) rfl (Nat.le_of_ble_eq_true rfl) (Nat.le_of_ble_eq_true rfl) ?_
  refine am_if (fun hc24 => ?_) (fun hc24 => ?_)
  · rw [if_pos hc24] at hd
    refine am_steps ok_Mo_leavesOne 1 (x' := (73, [some (.ref 22), some (.int q21), none, none], [.int 0], h0, 0, 0)) rfl (Nat.le_of_ble_eq_true rfl) (Nat.le_of_ble_eq_true rfl) ?_
    cases hd; exact am_ret ok_Mo_leavesOne rfl (Nat.le_of_ble_eq_true rfl) (Nat.le_of_ble_eq_true rfl) ⟨rfl, rfl⟩
  · rw [if_neg hc24] at hd
    refine am_steps ok_Mo_leavesOne 2 (x' := (73, [some (.ref 22), some (.int q21), none, none], [.int 1], h0, 0, 0)) rfl (Nat.le_of_ble_eq_true rfl) (Nat.le_of_ble_eq_true rfl) ?_
    cases hd; exact am_ret ok_Mo_leavesOne rfl (Nat.le_of_ble_eq_true rfl) (Nat.le_of_ble_eq_true rfl) ⟨rfl, rfl⟩
def l_Mo_areFields_158 : Nat → Int32 → Int32 → mS → Option (Int32)
  | 0, _, _, _ => none
  | fu + 1, v2, v3, s => (am_ix 16 400).bind fun j94 => (if (((s.2.2.1 24 j94) - 48) : Int32) ≤ v3 then (some v2) else ((if (v2 : Int32) = 0 then (some 0) else ((d_Mo_areDigits ((17 + (26 * v3)) + 11) 15 s).bind fun q103 => (if (q103 : Int32) = 0 then (some 0) else (some 1)))).bind fun (u98 : Int32) => (l_Mo_areFields_158 fu u98 (v3 + 1) s)))
set_option maxHeartbeats 4000000 in
set_option maxRecDepth 100000 in
theorem L_Mo_areFields_158 {Q : Option Value → am_H → Prop} (s : mS) (h : am_H) (hM : RM s h) : ∀ (fu : Nat) (v2 : Int32) (v3 : Int32) (q : Int32), l_Mo_areFields_158 fu v2 v3 s = some q → am_S am_Pr none 2 44 0 0 32 (207, [some (.ref 22), none, some (.int q), none], [], h, 0, 0) Q → am_S am_Pr none 2 44 0 0 32 (158, [some (.ref 22), none, some (.int v2), some (.int v3)], [], h, 0, 0) Q := by
  intro fu
  induction fu with
  | zero => intro v2 v3 q hd; cases hd
  | succ fu ih =>
    intro v2 v3 q hd kk
    unfold l_Mo_areFields_158 at hd
    refine am_steps ok_Mo_areFields 2 (x' := (160, [some (.ref 22), none, some (.int v2), some (.int v3)], [.ref 22, .int v3], h, 0, 0)) rfl (Nat.le_of_ble_eq_true rfl) (Nat.le_of_ble_eq_true rfl) ?_
    refine mr_get ok_Mo_areFields rfl hM (v := .ref 24) rfl (pc' := 163) rfl (Nat.le_of_ble_eq_true rfl) (Nat.le_of_ble_eq_true rfl) ?_
    refine am_steps ok_Mo_areFields 1 (x' := (165, [some (.ref 22), none, some (.int v2), some (.int v3)], [.int 16, .ref 24, .int v3], h, 0, 0)) rfl (Nat.le_of_ble_eq_true rfl) (Nat.le_of_ble_eq_true rfl) ?_
    obtain ⟨j94, hx95, hd96⟩ := Option.bind_eq_some_iff.mp hd; clear hd; have hd := hd96; clear hd96
    refine mr_bald ok_Mo_areFields rfl hM (N := 400) (by decide) (Or.inl rfl) hx95 (pc' := 166) rfl (Nat.le_of_ble_eq_true rfl) (Nat.le_of_ble_eq_true rfl) ?_
    refine am_steps ok_Mo_areFields 3 (x' := (if (((s.2.2.1 24 j94) - 48) : Int32) ≤ v3 then 207 else 172, [some (.ref 22), none, some (.int v2), some (.int v3)], [], h, 0, 0)) rfl (Nat.le_of_ble_eq_true rfl) (Nat.le_of_ble_eq_true rfl) ?_
    refine am_if (fun hc97 => ?_) (fun hc97 => ?_)
    · rw [if_pos hc97] at hd
      refine am_drop 3 ?_
      cases hd; exact kk
    · rw [if_neg hc97] at hd
      refine am_steps ok_Mo_areFields 2 (x' := (if (v2 : Int32) = 0 then 199 else 176, [some (.ref 22), none, some (.int v2), some (.int v3)], [], h, 0, 0)) rfl (Nat.le_of_ble_eq_true rfl) (Nat.le_of_ble_eq_true rfl) ?_
      obtain ⟨u98, hA100, hB101⟩ := Option.bind_eq_some_iff.mp hd; clear hd
      have K99 : am_S am_Pr none 2 44 0 0 32 (200, [some (.ref 22), none, none, some (.int v3)], [.int u98], h, 0, 0) Q := by
        have hd := hB101
        refine am_steps ok_Mo_areFields 3 (x' := (158, [some (.ref 22), none, some (.int u98), some (.int (v3 + 1))], [], h, 0, 0)) rfl (Nat.le_of_ble_eq_true rfl) (Nat.le_of_ble_eq_true rfl) ?_
        exact ih u98 (v3 + 1) q hd kk
      clear hB101; have hd := hA100; clear hA100
      refine am_if (fun hc102 => ?_) (fun hc102 => ?_)
      · rw [if_pos hc102] at hd
        refine am_steps ok_Mo_areFields 1 (x' := (200, [some (.ref 22), none, some (.int v2), some (.int v3)], [.int 0], h, 0, 0)) rfl (Nat.le_of_ble_eq_true rfl) (Nat.le_of_ble_eq_true rfl) ?_
        refine am_drop 2 ?_
        cases hd; exact K99 
      · rw [if_neg hc102] at hd
        refine am_steps ok_Mo_areFields 9 (x' := (189, [some (.ref 22), none, some (.int v2), some (.int v3)], [.int 15, .int ((17 + (26 * v3)) + 11), .ref 22], h, 0, 0)) rfl (Nat.le_of_ble_eq_true rfl) (Nat.le_of_ble_eq_true rfl) ?_
        obtain ⟨q103, hq104, hd105⟩ := Option.bind_eq_some_iff.mp hd; clear hd; have hd := hd105; clear hd105
        refine ar_cv ok_Mo_areFields hk_Mo_areDigits rfl rfl (As := [.int ((17 + (26 * v3)) + 11), .int 15]) (ad := 22) (rest := []) rfl rfl hM.1 (Nat.le_of_ble_eq_true rfl) (k_Mo_areDigits ((17 + (26 * v3)) + 11) 15 s h hM q103 hq104) (Nat.le_of_ble_eq_true rfl) (Nat.le_of_ble_eq_true rfl) (Nat.le_of_ble_eq_true rfl) (Nat.le_of_ble_eq_true rfl) (pc' := 192) rfl (fun r106 h108 z107 => ?_)
        obtain ⟨z112, z113⟩ := z107; subst z112; rw [z113]
        show am_S _ _ _ _ _ _ _ (192, [some (.ref 22), none, some (.int v2), some (.int v3)], [.int q103], h, 0, 0) _
        refine am_steps ok_Mo_areFields 1 (x' := (if (q103 : Int32) = 0 then 199 else 195, [some (.ref 22), none, some (.int v2), some (.int v3)], [], h, 0, 0)) rfl (Nat.le_of_ble_eq_true rfl) (Nat.le_of_ble_eq_true rfl) ?_
        refine am_if (fun hc114 => ?_) (fun hc114 => ?_)
        · rw [if_pos hc114] at hd
          refine am_steps ok_Mo_areFields 1 (x' := (200, [some (.ref 22), none, some (.int v2), some (.int v3)], [.int 0], h, 0, 0)) rfl (Nat.le_of_ble_eq_true rfl) (Nat.le_of_ble_eq_true rfl) ?_
          refine am_drop 2 ?_
          cases hd; exact K99 
        · rw [if_neg hc114] at hd
          refine am_steps ok_Mo_areFields 2 (x' := (200, [some (.ref 22), none, some (.int v2), some (.int v3)], [.int 1], h, 0, 0)) rfl (Nat.le_of_ble_eq_true rfl) (Nat.le_of_ble_eq_true rfl) ?_
          refine am_drop 2 ?_
          cases hd; exact K99 
def d_Mo_areFields  (s : mS) : Option (Int32) := if (s.1 4) = 1 then ((am_ix 18 400).bind fun j3 => ((if ¬ ((s.2.2.1 24 j3) : Int32) = 67 then (some 0) else (some 1)).bind fun (u6 : Int32) => (if ¬ (u6 : Int32) = 0 then ((d_Mo_areDigits 19 17 s).bind fun q11 => (if (q11 : Int32) = 0 then (some 0) else (if (u6 : Int32) = 0 then (some 1) else ((d_Mo_number 19 17 s).bind fun q24 => (if ¬ ((lg_cmp q24 0) : Int32) = 0 then (some 0) else (some 1)))))) else (if ¬ ((s.2.2.1 24 j3) : Int32) = 83 then (some 0) else ((d_Mo_areDigits 19 17 s).bind fun q37 => (if (q37 : Int32) = 0 then (some 0) else (if (u6 : Int32) = 0 then (some 1) else ((d_Mo_number 19 17 s).bind fun q50 => (if ¬ ((lg_cmp q50 0) : Int32) = 0 then (some 0) else (some 1)))))))))) else (if (s.1 4) = 2 then ((d_Mo_areDigits 18 17 s).bind fun q66 => (if q66 = 0 ∨ q66 = 1 then some q66 else none)) else (if (s.1 4) = 3 ∨ (s.1 4) = 4 then ((d_Mo_areDigits 22 15 s).bind fun q80 => (if q80 = 0 ∨ q80 = 1 then some q80 else none)) else (if (s.1 4) = 5 then ((l_Mo_areFields_158 100000 1 0 s).bind fun q115 => (if q115 = 0 ∨ q115 = 1 then some q115 else none)) else (if (s.1 4) = 8 then ((am_ix 23 400).bind fun j121 => (if ((s.2.2.1 24 j121) : Int32) < 49 then (some 0) else (if (57 : Int32) < (s.2.2.1 24 j121) then (some 0) else (some 1)))) else (if (s.1 4) = 9 then ((d_Mo_areDigits 19 15 s).bind fun q129 => (if q129 = 0 ∨ q129 = 1 then some q129 else none)) else (if (s.1 4) = 11 ∨ (s.1 4) = 12 then ((d_Mo_areDigits 18 15 s).bind fun q143 => (if q143 = 0 ∨ q143 = 1 then some q143 else none)) else (some 1)))))))
set_option maxHeartbeats 4000000 in
set_option maxRecDepth 100000 in
theorem k_Mo_areFields  (s : mS) (h0 : am_H) (hM : RM s h0) (q : Int32) (hd : d_Mo_areFields  s = some q) : am_Me am_Pr none 2 44 0 0 32 [.ref 22] h0 (am_is (some (.int q)) h0) := by
  refine am_enter (d := hd_Mo_areFields) rfl (by decide +kernel) (Nat.le_of_ble_eq_true rfl) ?_
  show am_S _ _ _ _ _ _ _ (0, [some (.ref 22), none, none, none], [], h0, 0, 0) _
  unfold d_Mo_areFields at hd
  refine am_steps ok_Mo_areFields 1 (x' := (1, [some (.ref 22), none, none, none], [.ref 22], h0, 0, 0)) rfl (Nat.le_of_ble_eq_true rfl) (Nat.le_of_ble_eq_true rfl) ?_
  refine mr_get ok_Mo_areFields rfl hM (v := .int (s.1 4)) rfl (pc' := 4) rfl (Nat.le_of_ble_eq_true rfl) (Nat.le_of_ble_eq_true rfl) ?_
  by_cases hc1 : (s.1 4) = 1
  · rw [if_pos hc1] at hd
    have KT2 : am_S am_Pr none 2 44 0 0 32 (68, [some (.ref 22), none, none, none], [], h0, 0, 0) (am_is (some (.int q)) h0) := by
      refine am_steps ok_Mo_areFields 1 (x' := (69, [some (.ref 22), none, none, none], [.ref 22], h0, 0, 0)) rfl (Nat.le_of_ble_eq_true rfl) (Nat.le_of_ble_eq_true rfl) ?_
      refine mr_get ok_Mo_areFields rfl hM (v := .ref 24) rfl (pc' := 72) rfl (Nat.le_of_ble_eq_true rfl) (Nat.le_of_ble_eq_true rfl) ?_
      refine am_steps ok_Mo_areFields 1 (x' := (74, [some (.ref 22), none, none, none], [.int 18, .ref 24], h0, 0, 0)) rfl (Nat.le_of_ble_eq_true rfl) (Nat.le_of_ble_eq_true rfl) ?_
      obtain ⟨j3, hx4, hd5⟩ := Option.bind_eq_some_iff.mp hd; clear hd; have hd := hd5; clear hd5
      refine mr_bald ok_Mo_areFields rfl hM (N := 400) (by decide) (Or.inl rfl) hx4 (pc' := 75) rfl (Nat.le_of_ble_eq_true rfl) (Nat.le_of_ble_eq_true rfl) ?_
      refine am_steps ok_Mo_areFields 2 (x' := (if ¬ ((s.2.2.1 24 j3) : Int32) = 67 then 84 else 80, [some (.ref 22), none, none, none], [], h0, 0, 0)) rfl (Nat.le_of_ble_eq_true rfl) (Nat.le_of_ble_eq_true rfl) ?_
      obtain ⟨u6, hA8, hB9⟩ := Option.bind_eq_some_iff.mp hd; clear hd
      have K7 : am_S am_Pr none 2 44 0 0 32 (85, [some (.ref 22), none, none, none], [.int u6], h0, 0, 0) (am_is (some (.int q)) h0) := by
        have hd := hB9
        refine am_steps ok_Mo_areFields 3 (x' := (if ¬ (u6 : Int32) = 0 then 102 else 90, [some (.ref 22), some (.int u6), none, none], [], h0, 0, 0)) rfl (Nat.le_of_ble_eq_true rfl) (Nat.le_of_ble_eq_true rfl) ?_
        refine am_if (fun hc10 => ?_) (fun hc10 => ?_)
        · rw [if_pos hc10] at hd
          refine am_steps ok_Mo_areFields 3 (x' := (107, [some (.ref 22), some (.int u6), none, none], [.int 17, .int 19, .ref 22], h0, 0, 0)) rfl (Nat.le_of_ble_eq_true rfl) (Nat.le_of_ble_eq_true rfl) ?_
          obtain ⟨q11, hq12, hd13⟩ := Option.bind_eq_some_iff.mp hd; clear hd; have hd := hd13; clear hd13
          refine ar_cv ok_Mo_areFields hk_Mo_areDigits rfl rfl (As := [.int 19, .int 17]) (ad := 22) (rest := []) rfl rfl hM.1 (Nat.le_of_ble_eq_true rfl) (k_Mo_areDigits 19 17 s h0 hM q11 hq12) (Nat.le_of_ble_eq_true rfl) (Nat.le_of_ble_eq_true rfl) (Nat.le_of_ble_eq_true rfl) (Nat.le_of_ble_eq_true rfl) (pc' := 110) rfl (fun r14 h16 z15 => ?_)
          obtain ⟨z20, z21⟩ := z15; subst z20; rw [z21]
          show am_S _ _ _ _ _ _ _ (110, [some (.ref 22), some (.int u6), none, none], [.int q11], h0, 0, 0) _
          refine am_steps ok_Mo_areFields 1 (x' := (if (q11 : Int32) = 0 then 134 else 113, [some (.ref 22), some (.int u6), none, none], [], h0, 0, 0)) rfl (Nat.le_of_ble_eq_true rfl) (Nat.le_of_ble_eq_true rfl) ?_
          refine am_if (fun hc22 => ?_) (fun hc22 => ?_)
          · rw [if_pos hc22] at hd
            refine am_steps ok_Mo_areFields 1 (x' := (135, [some (.ref 22), some (.int u6), none, none], [.int 0], h0, 0, 0)) rfl (Nat.le_of_ble_eq_true rfl) (Nat.le_of_ble_eq_true rfl) ?_
            cases hd; exact am_ret ok_Mo_areFields rfl (Nat.le_of_ble_eq_true rfl) (Nat.le_of_ble_eq_true rfl) ⟨rfl, rfl⟩
          · rw [if_neg hc22] at hd
            refine am_steps ok_Mo_areFields 2 (x' := (if (u6 : Int32) = 0 then 130 else 117, [some (.ref 22), some (.int u6), none, none], [], h0, 0, 0)) rfl (Nat.le_of_ble_eq_true rfl) (Nat.le_of_ble_eq_true rfl) ?_
            refine am_if (fun hc23 => ?_) (fun hc23 => ?_)
            · rw [if_pos hc23] at hd
              refine am_steps ok_Mo_areFields 2 (x' := (135, [some (.ref 22), some (.int u6), none, none], [.int 1], h0, 0, 0)) rfl (Nat.le_of_ble_eq_true rfl) (Nat.le_of_ble_eq_true rfl) ?_
              cases hd; exact am_ret ok_Mo_areFields rfl (Nat.le_of_ble_eq_true rfl) (Nat.le_of_ble_eq_true rfl) ⟨rfl, rfl⟩
            · rw [if_neg hc23] at hd
              refine am_steps ok_Mo_areFields 3 (x' := (122, [some (.ref 22), some (.int u6), none, none], [.int 17, .int 19, .ref 22], h0, 0, 0)) rfl (Nat.le_of_ble_eq_true rfl) (Nat.le_of_ble_eq_true rfl) ?_
              obtain ⟨q24, hq25, hd26⟩ := Option.bind_eq_some_iff.mp hd; clear hd; have hd := hd26; clear hd26
              refine ar_cv ok_Mo_areFields hk_Mo_number rfl rfl (As := [.int 19, .int 17]) (ad := 22) (rest := []) rfl rfl hM.1 (Nat.le_of_ble_eq_true rfl) (k_Mo_number 19 17 s h0 hM q24 hq25) (Nat.le_of_ble_eq_true rfl) (Nat.le_of_ble_eq_true rfl) (Nat.le_of_ble_eq_true rfl) (Nat.le_of_ble_eq_true rfl) (pc' := 125) rfl (fun r27 h29 z28 => ?_)
              obtain ⟨z33, z34⟩ := z28; subst z33; rw [z34]
              show am_S _ _ _ _ _ _ _ (125, [some (.ref 22), some (.int u6), none, none], [.long q24], h0, 0, 0) _
              refine am_steps ok_Mo_areFields 3 (x' := (if ¬ ((lg_cmp q24 0) : Int32) = 0 then 134 else 130, [some (.ref 22), some (.int u6), none, none], [], h0, 0, 0)) rfl (Nat.le_of_ble_eq_true rfl) (Nat.le_of_ble_eq_true rfl) ?_
              refine am_if (fun hc35 => ?_) (fun hc35 => ?_)
              · rw [if_pos hc35] at hd
                refine am_steps ok_Mo_areFields 1 (x' := (135, [some (.ref 22), some (.int u6), none, none], [.int 0], h0, 0, 0)) rfl (Nat.le_of_ble_eq_true rfl) (Nat.le_of_ble_eq_true rfl) ?_
                cases hd; exact am_ret ok_Mo_areFields rfl (Nat.le_of_ble_eq_true rfl) (Nat.le_of_ble_eq_true rfl) ⟨rfl, rfl⟩
              · rw [if_neg hc35] at hd
                refine am_steps ok_Mo_areFields 2 (x' := (135, [some (.ref 22), some (.int u6), none, none], [.int 1], h0, 0, 0)) rfl (Nat.le_of_ble_eq_true rfl) (Nat.le_of_ble_eq_true rfl) ?_
                cases hd; exact am_ret ok_Mo_areFields rfl (Nat.le_of_ble_eq_true rfl) (Nat.le_of_ble_eq_true rfl) ⟨rfl, rfl⟩
        · rw [if_neg hc10] at hd
          refine am_steps ok_Mo_areFields 1 (x' := (91, [some (.ref 22), some (.int u6), none, none], [.ref 22], h0, 0, 0)) rfl (Nat.le_of_ble_eq_true rfl) (Nat.le_of_ble_eq_true rfl) ?_
          refine mr_get ok_Mo_areFields rfl hM (v := .ref 24) rfl (pc' := 94) rfl (Nat.le_of_ble_eq_true rfl) (Nat.le_of_ble_eq_true rfl) ?_
          refine am_steps ok_Mo_areFields 1 (x' := (96, [some (.ref 22), some (.int u6), none, none], [.int 18, .ref 24], h0, 0, 0)) rfl (Nat.le_of_ble_eq_true rfl) (Nat.le_of_ble_eq_true rfl) ?_
          refine mr_bald ok_Mo_areFields rfl hM (N := 400) (by decide) (Or.inl rfl) hx4 (pc' := 97) rfl (Nat.le_of_ble_eq_true rfl) (Nat.le_of_ble_eq_true rfl) ?_
          refine am_steps ok_Mo_areFields 2 (x' := (if ¬ ((s.2.2.1 24 j3) : Int32) = 83 then 134 else 102, [some (.ref 22), some (.int u6), none, none], [], h0, 0, 0)) rfl (Nat.le_of_ble_eq_true rfl) (Nat.le_of_ble_eq_true rfl) ?_
          refine am_if (fun hc36 => ?_) (fun hc36 => ?_)
          · rw [if_pos hc36] at hd
            refine am_steps ok_Mo_areFields 1 (x' := (135, [some (.ref 22), some (.int u6), none, none], [.int 0], h0, 0, 0)) rfl (Nat.le_of_ble_eq_true rfl) (Nat.le_of_ble_eq_true rfl) ?_
            cases hd; exact am_ret ok_Mo_areFields rfl (Nat.le_of_ble_eq_true rfl) (Nat.le_of_ble_eq_true rfl) ⟨rfl, rfl⟩
          · rw [if_neg hc36] at hd
            refine am_steps ok_Mo_areFields 3 (x' := (107, [some (.ref 22), some (.int u6), none, none], [.int 17, .int 19, .ref 22], h0, 0, 0)) rfl (Nat.le_of_ble_eq_true rfl) (Nat.le_of_ble_eq_true rfl) ?_
            obtain ⟨q37, hq38, hd39⟩ := Option.bind_eq_some_iff.mp hd; clear hd; have hd := hd39; clear hd39
            refine ar_cv ok_Mo_areFields hk_Mo_areDigits rfl rfl (As := [.int 19, .int 17]) (ad := 22) (rest := []) rfl rfl hM.1 (Nat.le_of_ble_eq_true rfl) (k_Mo_areDigits 19 17 s h0 hM q37 hq38) (Nat.le_of_ble_eq_true rfl) (Nat.le_of_ble_eq_true rfl) (Nat.le_of_ble_eq_true rfl) (Nat.le_of_ble_eq_true rfl) (pc' := 110) rfl (fun r40 h42 z41 => ?_)
            obtain ⟨z46, z47⟩ := z41; subst z46; rw [z47]
            show am_S _ _ _ _ _ _ _ (110, [some (.ref 22), some (.int u6), none, none], [.int q37], h0, 0, 0) _
            refine am_steps ok_Mo_areFields 1 (x' := (if (q37 : Int32) = 0 then 134 else 113, [some (.ref 22), some (.int u6), none, none], [], h0, 0, 0)) rfl (Nat.le_of_ble_eq_true rfl) (Nat.le_of_ble_eq_true rfl) ?_
            refine am_if (fun hc48 => ?_) (fun hc48 => ?_)
            · rw [if_pos hc48] at hd
              refine am_steps ok_Mo_areFields 1 (x' := (135, [some (.ref 22), some (.int u6), none, none], [.int 0], h0, 0, 0)) rfl (Nat.le_of_ble_eq_true rfl) (Nat.le_of_ble_eq_true rfl) ?_
              cases hd; exact am_ret ok_Mo_areFields rfl (Nat.le_of_ble_eq_true rfl) (Nat.le_of_ble_eq_true rfl) ⟨rfl, rfl⟩
            · rw [if_neg hc48] at hd
              refine am_steps ok_Mo_areFields 2 (x' := (if (u6 : Int32) = 0 then 130 else 117, [some (.ref 22), some (.int u6), none, none], [], h0, 0, 0)) rfl (Nat.le_of_ble_eq_true rfl) (Nat.le_of_ble_eq_true rfl) ?_
              refine am_if (fun hc49 => ?_) (fun hc49 => ?_)
              · rw [if_pos hc49] at hd
                refine am_steps ok_Mo_areFields 2 (x' := (135, [some (.ref 22), some (.int u6), none, none], [.int 1], h0, 0, 0)) rfl (Nat.le_of_ble_eq_true rfl) (Nat.le_of_ble_eq_true rfl) ?_
                cases hd; exact am_ret ok_Mo_areFields rfl (Nat.le_of_ble_eq_true rfl) (Nat.le_of_ble_eq_true rfl) ⟨rfl, rfl⟩
              · rw [if_neg hc49] at hd
                refine am_steps ok_Mo_areFields 3 (x' := (122, [some (.ref 22), some (.int u6), none, none], [.int 17, .int 19, .ref 22], h0, 0, 0)) rfl (Nat.le_of_ble_eq_true rfl) (Nat.le_of_ble_eq_true rfl) ?_
                obtain ⟨q50, hq51, hd52⟩ := Option.bind_eq_some_iff.mp hd; clear hd; have hd := hd52; clear hd52
                refine ar_cv ok_Mo_areFields hk_Mo_number rfl rfl (As := [.int 19, .int 17]) (ad := 22) (rest := []) rfl rfl hM.1 (Nat.le_of_ble_eq_true rfl) (k_Mo_number 19 17 s h0 hM q50 hq51) (Nat.le_of_ble_eq_true rfl) (Nat.le_of_ble_eq_true rfl) (Nat.le_of_ble_eq_true rfl) (Nat.le_of_ble_eq_true rfl) (pc' := 125) rfl (fun r53 h55 z54 => ?_)
                obtain ⟨z59, z60⟩ := z54; subst z59; rw [z60]
                show am_S _ _ _ _ _ _ _ (125, [some (.ref 22), some (.int u6), none, none], [.long q50], h0, 0, 0) _
                refine am_steps ok_Mo_areFields 3 (x' := (if ¬ ((lg_cmp q50 0) : Int32) = 0 then 134 else 130, [some (.ref 22), some (.int u6), none, none], [], h0, 0, 0)) rfl (Nat.le_of_ble_eq_true rfl) (Nat.le_of_ble_eq_true rfl) ?_
                refine am_if (fun hc61 => ?_) (fun hc61 => ?_)
                · rw [if_pos hc61] at hd
                  refine am_steps ok_Mo_areFields 1 (x' := (135, [some (.ref 22), some (.int u6), none, none], [.int 0], h0, 0, 0)) rfl (Nat.le_of_ble_eq_true rfl) (Nat.le_of_ble_eq_true rfl) ?_
                  cases hd; exact am_ret ok_Mo_areFields rfl (Nat.le_of_ble_eq_true rfl) (Nat.le_of_ble_eq_true rfl) ⟨rfl, rfl⟩
                · rw [if_neg hc61] at hd
                  refine am_steps ok_Mo_areFields 2 (x' := (135, [some (.ref 22), some (.int u6), none, none], [.int 1], h0, 0, 0)) rfl (Nat.le_of_ble_eq_true rfl) (Nat.le_of_ble_eq_true rfl) ?_
                  cases hd; exact am_ret ok_Mo_areFields rfl (Nat.le_of_ble_eq_true rfl) (Nat.le_of_ble_eq_true rfl) ⟨rfl, rfl⟩
      clear hB9; have hd := hA8; clear hA8
      refine am_if (fun hc62 => ?_) (fun hc62 => ?_)
      · rw [if_pos hc62] at hd
        refine am_steps ok_Mo_areFields 1 (x' := (85, [some (.ref 22), none, none, none], [.int 0], h0, 0, 0)) rfl (Nat.le_of_ble_eq_true rfl) (Nat.le_of_ble_eq_true rfl) ?_
        cases hd; exact K7 
      · rw [if_neg hc62] at hd
        refine am_steps ok_Mo_areFields 2 (x' := (85, [some (.ref 22), none, none, none], [.int 1], h0, 0, 0)) rfl (Nat.le_of_ble_eq_true rfl) (Nat.le_of_ble_eq_true rfl) ?_
        cases hd; exact K7 
    exact ar_tswk ok_Mo_areFields rfl hc1 (by decide +kernel) rfl rfl (Nat.le_of_ble_eq_true rfl) (Nat.le_of_ble_eq_true rfl) KT2
  rw [if_neg hc1] at hd
  by_cases hc64 : (s.1 4) = 2
  · rw [if_pos hc64] at hd
    have KT65 : am_S am_Pr none 2 44 0 0 32 (136, [some (.ref 22), none, none, none], [], h0, 0, 0) (am_is (some (.int q)) h0) := by
      refine am_steps ok_Mo_areFields 3 (x' := (141, [some (.ref 22), none, none, none], [.int 17, .int 18, .ref 22], h0, 0, 0)) rfl (Nat.le_of_ble_eq_true rfl) (Nat.le_of_ble_eq_true rfl) ?_
      obtain ⟨q66, hq67, hd68⟩ := Option.bind_eq_some_iff.mp hd; clear hd; have hd := hd68; clear hd68
      refine ar_cv ok_Mo_areFields hk_Mo_areDigits rfl rfl (As := [.int 18, .int 17]) (ad := 22) (rest := []) rfl rfl hM.1 (Nat.le_of_ble_eq_true rfl) (k_Mo_areDigits 18 17 s h0 hM q66 hq67) (Nat.le_of_ble_eq_true rfl) (Nat.le_of_ble_eq_true rfl) (Nat.le_of_ble_eq_true rfl) (Nat.le_of_ble_eq_true rfl) (pc' := 144) rfl (fun r69 h71 z70 => ?_)
      obtain ⟨z75, z76⟩ := z70; subst z75; rw [z76]
      show am_S _ _ _ _ _ _ _ (144, [some (.ref 22), none, none, none], [.int q66], h0, 0, 0) _
      split at hd
      · rename_i hz; cases hd; exact am_ret ok_Mo_areFields (if_pos hz) (Nat.le_of_ble_eq_true rfl) (Nat.le_of_ble_eq_true rfl) ⟨rfl, rfl⟩
      · cases hd
    exact ar_tswk ok_Mo_areFields rfl hc64 (by decide +kernel) rfl rfl (Nat.le_of_ble_eq_true rfl) (Nat.le_of_ble_eq_true rfl) KT65
  rw [if_neg hc64] at hd
  by_cases hc78 : (s.1 4) = 3 ∨ (s.1 4) = 4
  · rw [if_pos hc78] at hd
    have KT79 : am_S am_Pr none 2 44 0 0 32 (145, [some (.ref 22), none, none, none], [], h0, 0, 0) (am_is (some (.int q)) h0) := by
      refine am_steps ok_Mo_areFields 3 (x' := (150, [some (.ref 22), none, none, none], [.int 15, .int 22, .ref 22], h0, 0, 0)) rfl (Nat.le_of_ble_eq_true rfl) (Nat.le_of_ble_eq_true rfl) ?_
      obtain ⟨q80, hq81, hd82⟩ := Option.bind_eq_some_iff.mp hd; clear hd; have hd := hd82; clear hd82
      refine ar_cv ok_Mo_areFields hk_Mo_areDigits rfl rfl (As := [.int 22, .int 15]) (ad := 22) (rest := []) rfl rfl hM.1 (Nat.le_of_ble_eq_true rfl) (k_Mo_areDigits 22 15 s h0 hM q80 hq81) (Nat.le_of_ble_eq_true rfl) (Nat.le_of_ble_eq_true rfl) (Nat.le_of_ble_eq_true rfl) (Nat.le_of_ble_eq_true rfl) (pc' := 153) rfl (fun r83 h85 z84 => ?_)
      obtain ⟨z89, z90⟩ := z84; subst z89; rw [z90]
      show am_S _ _ _ _ _ _ _ (153, [some (.ref 22), none, none, none], [.int q80], h0, 0, 0) _
      split at hd
      · rename_i hz; cases hd; exact am_ret ok_Mo_areFields (if_pos hz) (Nat.le_of_ble_eq_true rfl) (Nat.le_of_ble_eq_true rfl) ⟨rfl, rfl⟩
      · cases hd
    rcases hc78 with hv91 | hv91
    · exact ar_tswk ok_Mo_areFields rfl hv91 (by decide +kernel) rfl rfl (Nat.le_of_ble_eq_true rfl) (Nat.le_of_ble_eq_true rfl) KT79
    · exact ar_tswk ok_Mo_areFields rfl hv91 (by decide +kernel) rfl rfl (Nat.le_of_ble_eq_true rfl) (Nat.le_of_ble_eq_true rfl) KT79
  rw [if_neg hc78] at hd
  by_cases hc92 : (s.1 4) = 5
  · rw [if_pos hc92] at hd
    have KT93 : am_S am_Pr none 2 44 0 0 32 (154, [some (.ref 22), none, none, none], [], h0, 0, 0) (am_is (some (.int q)) h0) := by
      refine am_steps ok_Mo_areFields 4 (x' := (158, [some (.ref 22), none, some (.int 1), some (.int 0)], [], h0, 0, 0)) rfl (Nat.le_of_ble_eq_true rfl) (Nat.le_of_ble_eq_true rfl) ?_
      obtain ⟨q115, hq116, hd117⟩ := Option.bind_eq_some_iff.mp hd; clear hd; have hd := hd117; clear hd117
      refine L_Mo_areFields_158 s h0 hM 100000 1 0 q115 hq116 ?_
      show am_S _ _ _ _ _ _ _ (207, [some (.ref 22), none, some (.int q115), none], [], h0, 0, 0) _
      refine am_steps ok_Mo_areFields 1 (x' := (208, [some (.ref 22), none, some (.int q115), none], [.int q115], h0, 0, 0)) rfl (Nat.le_of_ble_eq_true rfl) (Nat.le_of_ble_eq_true rfl) ?_
      split at hd
      · rename_i hz; cases hd; exact am_ret ok_Mo_areFields (if_pos hz) (Nat.le_of_ble_eq_true rfl) (Nat.le_of_ble_eq_true rfl) ⟨rfl, rfl⟩
      · cases hd
    exact ar_tswk ok_Mo_areFields rfl hc92 (by decide +kernel) rfl rfl (Nat.le_of_ble_eq_true rfl) (Nat.le_of_ble_eq_true rfl) KT93
  rw [if_neg hc92] at hd
  by_cases hc119 : (s.1 4) = 8
  · rw [if_pos hc119] at hd
    have KT120 : am_S am_Pr none 2 44 0 0 32 (209, [some (.ref 22), none, none, none], [], h0, 0, 0) (am_is (some (.int q)) h0) := by
      refine am_steps ok_Mo_areFields 1 (x' := (210, [some (.ref 22), none, none, none], [.ref 22], h0, 0, 0)) rfl (Nat.le_of_ble_eq_true rfl) (Nat.le_of_ble_eq_true rfl) ?_
      refine mr_get ok_Mo_areFields rfl hM (v := .ref 24) rfl (pc' := 213) rfl (Nat.le_of_ble_eq_true rfl) (Nat.le_of_ble_eq_true rfl) ?_
      refine am_steps ok_Mo_areFields 1 (x' := (215, [some (.ref 22), none, none, none], [.int 23, .ref 24], h0, 0, 0)) rfl (Nat.le_of_ble_eq_true rfl) (Nat.le_of_ble_eq_true rfl) ?_
      obtain ⟨j121, hx122, hd123⟩ := Option.bind_eq_some_iff.mp hd; clear hd; have hd := hd123; clear hd123
      refine mr_bald ok_Mo_areFields rfl hM (N := 400) (by decide) (Or.inl rfl) hx122 (pc' := 216) rfl (Nat.le_of_ble_eq_true rfl) (Nat.le_of_ble_eq_true rfl) ?_
      refine am_steps ok_Mo_areFields 2 (x' := (if ((s.2.2.1 24 j121) : Int32) < 49 then 237 else 221, [some (.ref 22), none, none, none], [], h0, 0, 0)) rfl (Nat.le_of_ble_eq_true rfl) (Nat.le_of_ble_eq_true rfl) ?_
      refine am_if (fun hc124 => ?_) (fun hc124 => ?_)
      · rw [if_pos hc124] at hd
        refine am_steps ok_Mo_areFields 1 (x' := (238, [some (.ref 22), none, none, none], [.int 0], h0, 0, 0)) rfl (Nat.le_of_ble_eq_true rfl) (Nat.le_of_ble_eq_true rfl) ?_
        cases hd; exact am_ret ok_Mo_areFields rfl (Nat.le_of_ble_eq_true rfl) (Nat.le_of_ble_eq_true rfl) ⟨rfl, rfl⟩
      · rw [if_neg hc124] at hd
        refine am_steps ok_Mo_areFields 1 (x' := (222, [some (.ref 22), none, none, none], [.ref 22], h0, 0, 0)) rfl (Nat.le_of_ble_eq_true rfl) (Nat.le_of_ble_eq_true rfl) ?_
        refine mr_get ok_Mo_areFields rfl hM (v := .ref 24) rfl (pc' := 225) rfl (Nat.le_of_ble_eq_true rfl) (Nat.le_of_ble_eq_true rfl) ?_
        refine am_steps ok_Mo_areFields 1 (x' := (227, [some (.ref 22), none, none, none], [.int 23, .ref 24], h0, 0, 0)) rfl (Nat.le_of_ble_eq_true rfl) (Nat.le_of_ble_eq_true rfl) ?_
        refine mr_bald ok_Mo_areFields rfl hM (N := 400) (by decide) (Or.inl rfl) hx122 (pc' := 228) rfl (Nat.le_of_ble_eq_true rfl) (Nat.le_of_ble_eq_true rfl) ?_
        refine am_steps ok_Mo_areFields 2 (x' := (if (57 : Int32) < (s.2.2.1 24 j121) then 237 else 233, [some (.ref 22), none, none, none], [], h0, 0, 0)) rfl (Nat.le_of_ble_eq_true rfl) (Nat.le_of_ble_eq_true rfl) ?_
        refine am_if (fun hc125 => ?_) (fun hc125 => ?_)
        · rw [if_pos hc125] at hd
          refine am_steps ok_Mo_areFields 1 (x' := (238, [some (.ref 22), none, none, none], [.int 0], h0, 0, 0)) rfl (Nat.le_of_ble_eq_true rfl) (Nat.le_of_ble_eq_true rfl) ?_
          cases hd; exact am_ret ok_Mo_areFields rfl (Nat.le_of_ble_eq_true rfl) (Nat.le_of_ble_eq_true rfl) ⟨rfl, rfl⟩
        · rw [if_neg hc125] at hd
          refine am_steps ok_Mo_areFields 2 (x' := (238, [some (.ref 22), none, none, none], [.int 1], h0, 0, 0)) rfl (Nat.le_of_ble_eq_true rfl) (Nat.le_of_ble_eq_true rfl) ?_
          cases hd; exact am_ret ok_Mo_areFields rfl (Nat.le_of_ble_eq_true rfl) (Nat.le_of_ble_eq_true rfl) ⟨rfl, rfl⟩
    exact ar_tswk ok_Mo_areFields rfl hc119 (by decide +kernel) rfl rfl (Nat.le_of_ble_eq_true rfl) (Nat.le_of_ble_eq_true rfl) KT120
  rw [if_neg hc119] at hd
  by_cases hc127 : (s.1 4) = 9
  · rw [if_pos hc127] at hd
    have KT128 : am_S am_Pr none 2 44 0 0 32 (239, [some (.ref 22), none, none, none], [], h0, 0, 0) (am_is (some (.int q)) h0) := by
      refine am_steps ok_Mo_areFields 3 (x' := (244, [some (.ref 22), none, none, none], [.int 15, .int 19, .ref 22], h0, 0, 0)) rfl (Nat.le_of_ble_eq_true rfl) (Nat.le_of_ble_eq_true rfl) ?_
      obtain ⟨q129, hq130, hd131⟩ := Option.bind_eq_some_iff.mp hd; clear hd; have hd := hd131; clear hd131
      refine ar_cv ok_Mo_areFields hk_Mo_areDigits rfl rfl (As := [.int 19, .int 15]) (ad := 22) (rest := []) rfl rfl hM.1 (Nat.le_of_ble_eq_true rfl) (k_Mo_areDigits 19 15 s h0 hM q129 hq130) (Nat.le_of_ble_eq_true rfl) (Nat.le_of_ble_eq_true rfl) (Nat.le_of_ble_eq_true rfl) (Nat.le_of_ble_eq_true rfl) (pc' := 247) rfl (fun r132 h134 z133 => ?_)
      obtain ⟨z138, z139⟩ := z133; subst z138; rw [z139]
      show am_S _ _ _ _ _ _ _ (247, [some (.ref 22), none, none, none], [.int q129], h0, 0, 0) _
      split at hd
      · rename_i hz; cases hd; exact am_ret ok_Mo_areFields (if_pos hz) (Nat.le_of_ble_eq_true rfl) (Nat.le_of_ble_eq_true rfl) ⟨rfl, rfl⟩
      · cases hd
    exact ar_tswk ok_Mo_areFields rfl hc127 (by decide +kernel) rfl rfl (Nat.le_of_ble_eq_true rfl) (Nat.le_of_ble_eq_true rfl) KT128
  rw [if_neg hc127] at hd
  by_cases hc141 : (s.1 4) = 11 ∨ (s.1 4) = 12
  · rw [if_pos hc141] at hd
    have KT142 : am_S am_Pr none 2 44 0 0 32 (248, [some (.ref 22), none, none, none], [], h0, 0, 0) (am_is (some (.int q)) h0) := by
      refine am_steps ok_Mo_areFields 3 (x' := (253, [some (.ref 22), none, none, none], [.int 15, .int 18, .ref 22], h0, 0, 0)) rfl (Nat.le_of_ble_eq_true rfl) (Nat.le_of_ble_eq_true rfl) ?_
      obtain ⟨q143, hq144, hd145⟩ := Option.bind_eq_some_iff.mp hd; clear hd; have hd := hd145; clear hd145
      refine ar_cv ok_Mo_areFields hk_Mo_areDigits rfl rfl (As := [.int 18, .int 15]) (ad := 22) (rest := []) rfl rfl hM.1 (Nat.le_of_ble_eq_true rfl) (k_Mo_areDigits 18 15 s h0 hM q143 hq144) (Nat.le_of_ble_eq_true rfl) (Nat.le_of_ble_eq_true rfl) (Nat.le_of_ble_eq_true rfl) (Nat.le_of_ble_eq_true rfl) (pc' := 256) rfl (fun r146 h148 z147 => ?_)
      obtain ⟨z152, z153⟩ := z147; subst z152; rw [z153]
      show am_S _ _ _ _ _ _ _ (256, [some (.ref 22), none, none, none], [.int q143], h0, 0, 0) _
      split at hd
      · rename_i hz; cases hd; exact am_ret ok_Mo_areFields (if_pos hz) (Nat.le_of_ble_eq_true rfl) (Nat.le_of_ble_eq_true rfl) ⟨rfl, rfl⟩
      · cases hd
    rcases hc141 with hv154 | hv154
    · exact ar_tswk ok_Mo_areFields rfl hv154 (by decide +kernel) rfl rfl (Nat.le_of_ble_eq_true rfl) (Nat.le_of_ble_eq_true rfl) KT142
    · exact ar_tswk ok_Mo_areFields rfl hv154 (by decide +kernel) rfl rfl (Nat.le_of_ble_eq_true rfl) (Nat.le_of_ble_eq_true rfl) KT142
  rw [if_neg hc141] at hd
  have KT155 : am_S am_Pr none 2 44 0 0 32 (257, [some (.ref 22), none, none, none], [], h0, 0, 0) (am_is (some (.int q)) h0) := by
    refine am_steps ok_Mo_areFields 1 (x' := (258, [some (.ref 22), none, none, none], [.int 1], h0, 0, 0)) rfl (Nat.le_of_ble_eq_true rfl) (Nat.le_of_ble_eq_true rfl) ?_
    cases hd; exact am_ret ok_Mo_areFields rfl (Nat.le_of_ble_eq_true rfl) (Nat.le_of_ble_eq_true rfl) ⟨rfl, rfl⟩
  by_cases hc156 : (s.1 4) = 6
  · exact ar_tswk ok_Mo_areFields rfl hc156 (by decide +kernel) rfl rfl (Nat.le_of_ble_eq_true rfl) (Nat.le_of_ble_eq_true rfl) KT155
  by_cases hc157 : (s.1 4) = 7
  · exact ar_tswk ok_Mo_areFields rfl hc157 (by decide +kernel) rfl rfl (Nat.le_of_ble_eq_true rfl) (Nat.le_of_ble_eq_true rfl) KT155
  by_cases hc158 : (s.1 4) = 10
  · exact ar_tswk ok_Mo_areFields rfl hc158 (by decide +kernel) rfl rfl (Nat.le_of_ble_eq_true rfl) (Nat.le_of_ble_eq_true rfl) KT155
  have ho163 : (s.1 4).toInt < 1 ∨ 12 < (s.1 4).toInt := tsw_out (fun c160 h161 h162 e159 => by
    have c160x : c160 = 1 ∨ c160 = 2 ∨ c160 = 3 ∨ c160 = 4 ∨ c160 = 5 ∨ c160 = 6 ∨ c160 = 7 ∨ c160 = 8 ∨ c160 = 9 ∨ c160 = 10 ∨ c160 = 11 ∨ c160 = 12 := by omega
    rcases c160x with rfl | rfl | rfl | rfl | rfl | rfl | rfl | rfl | rfl | rfl | rfl | rfl
    · exact hc1 e159
    · exact hc64 e159
    · exact hc78 (Or.inl e159)
    · exact hc78 (Or.inr e159)
    · exact hc92 e159
    · exact hc156 e159
    · exact hc157 e159
    · exact hc119 e159
    · exact hc127 e159
    · exact hc158 e159
    · exact hc141 (Or.inl e159)
    · exact hc141 (Or.inr e159))
  exact ar_tsw ok_Mo_areFields rfl ho163 rfl (Nat.le_of_ble_eq_true rfl) (Nat.le_of_ble_eq_true rfl) KT155
def l_Mo_isMessage_17 : Nat → Int32 → Int32 → mS → Option (Int32)
  | 0, _, _, _ => none
  | fu + 1, v1, v2, s => if ((s.1 3) : Int32) ≤ v2 then (some v1) else ((if (v1 : Int32) = 0 then (some 0) else ((am_ix v2 400).bind fun j11 => ((d_Mo_isSign (s.2.2.1 24 j11)).bind fun q14 => (if (q14 : Int32) = 0 then (some 0) else (some 1))))).bind fun (u6 : Int32) => (l_Mo_isMessage_17 fu u6 (v2 + 1) s))
set_option maxHeartbeats 4000000 in
set_option maxRecDepth 100000 in
theorem L_Mo_isMessage_17 {Q : Option Value → am_H → Prop} (s : mS) (h : am_H) (hM : RM s h) : ∀ (fu : Nat) (v1 : Int32) (v2 : Int32) (q : Int32), l_Mo_isMessage_17 fu v1 v2 s = some q → am_S am_Pr none 3 67 0 0 31 (53, [some (.ref 22), some (.int q), none], [], h, 0, 0) Q → am_S am_Pr none 3 67 0 0 31 (17, [some (.ref 22), some (.int v1), some (.int v2)], [], h, 0, 0) Q := by
  intro fu
  induction fu with
  | zero => intro v1 v2 q hd; cases hd
  | succ fu ih =>
    intro v1 v2 q hd kk
    unfold l_Mo_isMessage_17 at hd
    refine am_steps ok_Mo_isMessage 2 (x' := (19, [some (.ref 22), some (.int v1), some (.int v2)], [.ref 22, .int v2], h, 0, 0)) rfl (Nat.le_of_ble_eq_true rfl) (Nat.le_of_ble_eq_true rfl) ?_
    refine mr_get ok_Mo_isMessage rfl hM (v := .int (s.1 3)) rfl (pc' := 22) rfl (Nat.le_of_ble_eq_true rfl) (Nat.le_of_ble_eq_true rfl) ?_
    refine am_steps ok_Mo_isMessage 1 (x' := (if ((s.1 3) : Int32) ≤ v2 then 53 else 25, [some (.ref 22), some (.int v1), some (.int v2)], [], h, 0, 0)) rfl (Nat.le_of_ble_eq_true rfl) (Nat.le_of_ble_eq_true rfl) ?_
    refine am_if (fun hc5 => ?_) (fun hc5 => ?_)
    · rw [if_pos hc5] at hd
      refine am_drop 2 ?_
      cases hd; exact kk
    · rw [if_neg hc5] at hd
      refine am_steps ok_Mo_isMessage 2 (x' := (if (v1 : Int32) = 0 then 45 else 29, [some (.ref 22), some (.int v1), some (.int v2)], [], h, 0, 0)) rfl (Nat.le_of_ble_eq_true rfl) (Nat.le_of_ble_eq_true rfl) ?_
      obtain ⟨u6, hA8, hB9⟩ := Option.bind_eq_some_iff.mp hd; clear hd
      have K7 : am_S am_Pr none 3 67 0 0 31 (46, [some (.ref 22), none, some (.int v2)], [.int u6], h, 0, 0) Q := by
        have hd := hB9
        refine am_steps ok_Mo_isMessage 3 (x' := (17, [some (.ref 22), some (.int u6), some (.int (v2 + 1))], [], h, 0, 0)) rfl (Nat.le_of_ble_eq_true rfl) (Nat.le_of_ble_eq_true rfl) ?_
        exact ih u6 (v2 + 1) q hd kk
      clear hB9; have hd := hA8; clear hA8
      refine am_if (fun hc10 => ?_) (fun hc10 => ?_)
      · rw [if_pos hc10] at hd
        refine am_steps ok_Mo_isMessage 1 (x' := (46, [some (.ref 22), some (.int v1), some (.int v2)], [.int 0], h, 0, 0)) rfl (Nat.le_of_ble_eq_true rfl) (Nat.le_of_ble_eq_true rfl) ?_
        refine am_drop 1 ?_
        cases hd; exact K7 
      · rw [if_neg hc10] at hd
        refine am_steps ok_Mo_isMessage 1 (x' := (30, [some (.ref 22), some (.int v1), some (.int v2)], [.ref 22], h, 0, 0)) rfl (Nat.le_of_ble_eq_true rfl) (Nat.le_of_ble_eq_true rfl) ?_
        refine mr_get ok_Mo_isMessage rfl hM (v := .ref 24) rfl (pc' := 33) rfl (Nat.le_of_ble_eq_true rfl) (Nat.le_of_ble_eq_true rfl) ?_
        refine am_steps ok_Mo_isMessage 1 (x' := (34, [some (.ref 22), some (.int v1), some (.int v2)], [.int v2, .ref 24], h, 0, 0)) rfl (Nat.le_of_ble_eq_true rfl) (Nat.le_of_ble_eq_true rfl) ?_
        obtain ⟨j11, hx12, hd13⟩ := Option.bind_eq_some_iff.mp hd; clear hd; have hd := hd13; clear hd13
        refine mr_bald ok_Mo_isMessage rfl hM (N := 400) (by decide) (Or.inl rfl) hx12 (pc' := 35) rfl (Nat.le_of_ble_eq_true rfl) (Nat.le_of_ble_eq_true rfl) ?_
        obtain ⟨q14, hq15, hd16⟩ := Option.bind_eq_some_iff.mp hd; clear hd; have hd := hd16; clear hd16
        refine am_call ok_Mo_isMessage hk_Mo_isSign rfl (args' := [.int (s.2.2.1 24 j11)]) (rest := []) rfl (k_Mo_isSign (s.2.2.1 24 j11) h q14 hq15) (Nat.le_of_ble_eq_true rfl) (Nat.le_of_ble_eq_true rfl) (Nat.le_of_ble_eq_true rfl) (Nat.le_of_ble_eq_true rfl) (fun r17 h19 z18 => ?_)
        obtain ⟨z23, z24⟩ := z18; subst z23; rw [z24]
        show am_S _ _ _ _ _ _ _ (38, [some (.ref 22), some (.int v1), some (.int v2)], [.int q14], h, 0, 0) _
        refine am_steps ok_Mo_isMessage 1 (x' := (if (q14 : Int32) = 0 then 45 else 41, [some (.ref 22), some (.int v1), some (.int v2)], [], h, 0, 0)) rfl (Nat.le_of_ble_eq_true rfl) (Nat.le_of_ble_eq_true rfl) ?_
        refine am_if (fun hc25 => ?_) (fun hc25 => ?_)
        · rw [if_pos hc25] at hd
          refine am_steps ok_Mo_isMessage 1 (x' := (46, [some (.ref 22), some (.int v1), some (.int v2)], [.int 0], h, 0, 0)) rfl (Nat.le_of_ble_eq_true rfl) (Nat.le_of_ble_eq_true rfl) ?_
          refine am_drop 1 ?_
          cases hd; exact K7 
        · rw [if_neg hc25] at hd
          refine am_steps ok_Mo_isMessage 2 (x' := (46, [some (.ref 22), some (.int v1), some (.int v2)], [.int 1], h, 0, 0)) rfl (Nat.le_of_ble_eq_true rfl) (Nat.le_of_ble_eq_true rfl) ?_
          refine am_drop 1 ?_
          cases hd; exact K7 
def d_Mo_isMessage  (s : mS) : Option (Int32 × mS) := (if ((s.1 3) : Int32) < 17 then (some 0) else (some 1)).bind fun (u1 : Int32) => ((l_Mo_isMessage_17 100000 u1 0 s).bind fun q26 => (if ¬ (q26 : Int32) = 0 then ((d_Mo_findKind  s).bind fun q30 => (if (0 : Int32) ≤ (q30.1 4) then ((am_ix (q30.1 4) 15).bind fun j40 => (if ¬ ((q30.1 4) : Int32) = 5 then (if ¬ ((q30.1 3) : Int32) = ((15 + (am_fields.getD j40 0)) + 2) then (some (0, q30)) else ((d_Mo_areFields  q30).bind fun q45 => (if (q45 : Int32) = 0 then (some (0, q30)) else ((d_Mo_areDigits ((q30.1 3) - 2) 2 q30).bind fun q57 => (if (q57 : Int32) = 0 then (some (0, q30)) else ((d_Mo_leavesOne  q30).bind fun q69 => (if (q69 : Int32) = 0 then (some (0, q30)) else (some (1, q30))))))))) else (if ((q30.1 3) : Int32) < 19 then (some (0, q30)) else ((am_ix 15 400).bind fun j82 => (if ((q30.2.2.1 24 j82) : Int32) < 49 then (some (0, q30)) else (if (57 : Int32) < (q30.2.2.1 24 j82) then (some (0, q30)) else ((am_ix 16 400).bind fun j87 => (if ((q30.2.2.1 24 j87) : Int32) < 49 then (some (0, q30)) else (if ((q30.2.2.1 24 j87) : Int32) ≤ 52 then (if ¬ ((q30.1 3) : Int32) = ((15 + ((am_fields.getD j40 0) + (26 * ((q30.2.2.1 24 j87) - 48)))) + 2) then (some (0, q30)) else ((d_Mo_areFields  q30).bind fun q93 => (if (q93 : Int32) = 0 then (some (0, q30)) else ((d_Mo_areDigits ((q30.1 3) - 2) 2 q30).bind fun q105 => (if (q105 : Int32) = 0 then (some (0, q30)) else ((d_Mo_leavesOne  q30).bind fun q117 => (if (q117 : Int32) = 0 then (some (0, q30)) else (some (1, q30))))))))) else (some (0, q30))))))))))) else (some (0, q30)))) else (some (0, s))))
set_option maxHeartbeats 4000000 in
set_option maxRecDepth 100000 in
theorem k_Mo_isMessage  (s : mS) (h0 : am_H) (hM : RM s h0) (q : Int32 × mS) (hd : d_Mo_isMessage  s = some q) : am_Me am_Pr none 3 67 0 0 31 [.ref 22] h0 (mQr (.int q.1) q.2 h0) := by
  refine am_enter (d := hd_Mo_isMessage) rfl (by decide +kernel) (Nat.le_of_ble_eq_true rfl) ?_
  show am_S _ _ _ _ _ _ _ (0, [some (.ref 22), none, none], [], h0, 0, 0) _
  unfold d_Mo_isMessage at hd
  refine am_steps ok_Mo_isMessage 1 (x' := (1, [some (.ref 22), none, none], [.ref 22], h0, 0, 0)) rfl (Nat.le_of_ble_eq_true rfl) (Nat.le_of_ble_eq_true rfl) ?_
  refine mr_get ok_Mo_isMessage rfl hM (v := .int (s.1 3)) rfl (pc' := 4) rfl (Nat.le_of_ble_eq_true rfl) (Nat.le_of_ble_eq_true rfl) ?_
  refine am_steps ok_Mo_isMessage 2 (x' := (if ((s.1 3) : Int32) < 17 then 13 else 9, [some (.ref 22), none, none], [], h0, 0, 0)) rfl (Nat.le_of_ble_eq_true rfl) (Nat.le_of_ble_eq_true rfl) ?_
  obtain ⟨u1, hA3, hB4⟩ := Option.bind_eq_some_iff.mp hd; clear hd
  have K2 : am_S am_Pr none 3 67 0 0 31 (14, [some (.ref 22), none, none], [.int u1], h0, 0, 0) (mQr (.int q.1) q.2 h0) := by
    have hd := hB4
    refine am_steps ok_Mo_isMessage 3 (x' := (17, [some (.ref 22), some (.int u1), some (.int 0)], [], h0, 0, 0)) rfl (Nat.le_of_ble_eq_true rfl) (Nat.le_of_ble_eq_true rfl) ?_
    obtain ⟨q26, hq27, hd28⟩ := Option.bind_eq_some_iff.mp hd; clear hd; have hd := hd28; clear hd28
    refine L_Mo_isMessage_17 s h0 hM 100000 u1 0 q26 hq27 ?_
    show am_S _ _ _ _ _ _ _ (53, [some (.ref 22), some (.int q26), none], [], h0, 0, 0) _
    refine am_steps ok_Mo_isMessage 2 (x' := (if ¬ (q26 : Int32) = 0 then 59 else 57, [some (.ref 22), some (.int q26), none], [], h0, 0, 0)) rfl (Nat.le_of_ble_eq_true rfl) (Nat.le_of_ble_eq_true rfl) ?_
    refine am_if (fun hc29 => ?_) (fun hc29 => ?_)
    · rw [if_pos hc29] at hd
      refine am_steps ok_Mo_isMessage 1 (x' := (60, [some (.ref 22), some (.int q26), none], [.ref 22], h0, 0, 0)) rfl (Nat.le_of_ble_eq_true rfl) (Nat.le_of_ble_eq_true rfl) ?_
      obtain ⟨q30, hq31, hd32⟩ := Option.bind_eq_some_iff.mp hd; clear hd; have hd := hd32; clear hd32
      refine ar_cv ok_Mo_isMessage hk_Mo_findKind rfl rfl (As := []) (ad := 22) (rest := []) rfl rfl hM.1 (Nat.le_of_ble_eq_true rfl) (k_Mo_findKind  s h0 hM q30 hq31) (Nat.le_of_ble_eq_true rfl) (Nat.le_of_ble_eq_true rfl) (Nat.le_of_ble_eq_true rfl) (Nat.le_of_ble_eq_true rfl) (pc' := 63) rfl (fun r33 h35 z34 => ?_)
      obtain ⟨rfl, hM36, g38⟩ := z34
      have f37 := mF.tr (mF.rf) g38
      show am_S _ _ _ _ _ _ _ (63, [some (.ref 22), some (.int q26), none], [], h35, 0, 0) _
      refine am_steps ok_Mo_isMessage 1 (x' := (64, [some (.ref 22), some (.int q26), none], [.ref 22], h35, 0, 0)) rfl (Nat.le_of_ble_eq_true rfl) (Nat.le_of_ble_eq_true rfl) ?_
      refine mr_get ok_Mo_isMessage rfl hM36 (v := .int (q30.1 4)) rfl (pc' := 67) rfl (Nat.le_of_ble_eq_true rfl) (Nat.le_of_ble_eq_true rfl) ?_
      refine am_steps ok_Mo_isMessage 1 (x' := (if (0 : Int32) ≤ (q30.1 4) then 72 else 70, [some (.ref 22), some (.int q26), none], [], h35, 0, 0)) rfl (Nat.le_of_ble_eq_true rfl) (Nat.le_of_ble_eq_true rfl) ?_
      refine am_if (fun hc39 => ?_) (fun hc39 => ?_)
      · rw [if_pos hc39] at hd
        refine am_steps ok_Mo_isMessage 2 (x' := (76, [some (.ref 22), some (.int q26), none], [.ref 22, .ref (am_M + 3)], h35, 0, 0)) rfl (Nat.le_of_ble_eq_true rfl) (Nat.le_of_ble_eq_true rfl) ?_
        refine mr_get ok_Mo_isMessage rfl hM36 (v := .int (q30.1 4)) rfl (pc' := 79) rfl (Nat.le_of_ble_eq_true rfl) (Nat.le_of_ble_eq_true rfl) ?_
        obtain ⟨j40, hx41, hd42⟩ := Option.bind_eq_some_iff.mp hd; clear hd; have hd := hd42; clear hd42
        refine ao_iald (d0 := hd_Mo_isMessage) rfl (by decide +kernel) (t := 2) rfl (N := 15) hx41 (v := (am_fields.getD j40 0)) rfl (pc' := 80) rfl ?_
        refine am_steps ok_Mo_isMessage 2 (x' := (82, [some (.ref 22), some (.int q26), some (.int (am_fields.getD j40 0))], [.ref 22], h35, 0, 0)) rfl (Nat.le_of_ble_eq_true rfl) (Nat.le_of_ble_eq_true rfl) ?_
        refine mr_get ok_Mo_isMessage rfl hM36 (v := .int (q30.1 4)) rfl (pc' := 85) rfl (Nat.le_of_ble_eq_true rfl) (Nat.le_of_ble_eq_true rfl) ?_
        refine am_steps ok_Mo_isMessage 2 (x' := (if ¬ ((q30.1 4) : Int32) = 5 then 164 else 89, [some (.ref 22), some (.int q26), some (.int (am_fields.getD j40 0))], [], h35, 0, 0)) rfl (Nat.le_of_ble_eq_true rfl) (Nat.le_of_ble_eq_true rfl) ?_
        refine am_if (fun hc43 => ?_) (fun hc43 => ?_)
        · rw [if_pos hc43] at hd
          refine am_steps ok_Mo_isMessage 1 (x' := (165, [some (.ref 22), some (.int q26), some (.int (am_fields.getD j40 0))], [.ref 22], h35, 0, 0)) rfl (Nat.le_of_ble_eq_true rfl) (Nat.le_of_ble_eq_true rfl) ?_
          refine mr_get ok_Mo_isMessage rfl hM36 (v := .int (q30.1 3)) rfl (pc' := 168) rfl (Nat.le_of_ble_eq_true rfl) (Nat.le_of_ble_eq_true rfl) ?_
          refine am_steps ok_Mo_isMessage 6 (x' := (if ¬ ((q30.1 3) : Int32) = ((15 + (am_fields.getD j40 0)) + 2) then 209 else 177, [some (.ref 22), some (.int q26), some (.int (am_fields.getD j40 0))], [], h35, 0, 0)) rfl (Nat.le_of_ble_eq_true rfl) (Nat.le_of_ble_eq_true rfl) ?_
          refine am_if (fun hc44 => ?_) (fun hc44 => ?_)
          · rw [if_pos hc44] at hd
            refine am_steps ok_Mo_isMessage 1 (x' := (210, [some (.ref 22), some (.int q26), some (.int (am_fields.getD j40 0))], [.int 0], h35, 0, 0)) rfl (Nat.le_of_ble_eq_true rfl) (Nat.le_of_ble_eq_true rfl) ?_
            cases hd; exact am_ret ok_Mo_isMessage rfl (Nat.le_of_ble_eq_true rfl) (Nat.le_of_ble_eq_true rfl) ⟨rfl, hM36, f37⟩
          · rw [if_neg hc44] at hd
            refine am_steps ok_Mo_isMessage 1 (x' := (178, [some (.ref 22), some (.int q26), some (.int (am_fields.getD j40 0))], [.ref 22], h35, 0, 0)) rfl (Nat.le_of_ble_eq_true rfl) (Nat.le_of_ble_eq_true rfl) ?_
            obtain ⟨q45, hq46, hd47⟩ := Option.bind_eq_some_iff.mp hd; clear hd; have hd := hd47; clear hd47
            refine ar_cv ok_Mo_isMessage hk_Mo_areFields rfl rfl (As := []) (ad := 22) (rest := []) rfl rfl hM36.1 (Nat.le_of_ble_eq_true rfl) (k_Mo_areFields  q30 h35 hM36 q45 hq46) (Nat.le_of_ble_eq_true rfl) (Nat.le_of_ble_eq_true rfl) (Nat.le_of_ble_eq_true rfl) (Nat.le_of_ble_eq_true rfl) (pc' := 181) rfl (fun r48 h50 z49 => ?_)
            obtain ⟨z54, z55⟩ := z49; subst z54; rw [z55]
            show am_S _ _ _ _ _ _ _ (181, [some (.ref 22), some (.int q26), some (.int (am_fields.getD j40 0))], [.int q45], h35, 0, 0) _
            refine am_steps ok_Mo_isMessage 1 (x' := (if (q45 : Int32) = 0 then 209 else 184, [some (.ref 22), some (.int q26), some (.int (am_fields.getD j40 0))], [], h35, 0, 0)) rfl (Nat.le_of_ble_eq_true rfl) (Nat.le_of_ble_eq_true rfl) ?_
            refine am_if (fun hc56 => ?_) (fun hc56 => ?_)
            · rw [if_pos hc56] at hd
              refine am_steps ok_Mo_isMessage 1 (x' := (210, [some (.ref 22), some (.int q26), some (.int (am_fields.getD j40 0))], [.int 0], h35, 0, 0)) rfl (Nat.le_of_ble_eq_true rfl) (Nat.le_of_ble_eq_true rfl) ?_
              cases hd; exact am_ret ok_Mo_isMessage rfl (Nat.le_of_ble_eq_true rfl) (Nat.le_of_ble_eq_true rfl) ⟨rfl, hM36, f37⟩
            · rw [if_neg hc56] at hd
              refine am_steps ok_Mo_isMessage 2 (x' := (186, [some (.ref 22), some (.int q26), some (.int (am_fields.getD j40 0))], [.ref 22, .ref 22], h35, 0, 0)) rfl (Nat.le_of_ble_eq_true rfl) (Nat.le_of_ble_eq_true rfl) ?_
              refine mr_get ok_Mo_isMessage rfl hM36 (v := .int (q30.1 3)) rfl (pc' := 189) rfl (Nat.le_of_ble_eq_true rfl) (Nat.le_of_ble_eq_true rfl) ?_
              refine am_steps ok_Mo_isMessage 3 (x' := (192, [some (.ref 22), some (.int q26), some (.int (am_fields.getD j40 0))], [.int 2, .int ((q30.1 3) - 2), .ref 22], h35, 0, 0)) rfl (Nat.le_of_ble_eq_true rfl) (Nat.le_of_ble_eq_true rfl) ?_
              obtain ⟨q57, hq58, hd59⟩ := Option.bind_eq_some_iff.mp hd; clear hd; have hd := hd59; clear hd59
              refine ar_cv ok_Mo_isMessage hk_Mo_areDigits rfl rfl (As := [.int ((q30.1 3) - 2), .int 2]) (ad := 22) (rest := []) rfl rfl hM36.1 (Nat.le_of_ble_eq_true rfl) (k_Mo_areDigits ((q30.1 3) - 2) 2 q30 h35 hM36 q57 hq58) (Nat.le_of_ble_eq_true rfl) (Nat.le_of_ble_eq_true rfl) (Nat.le_of_ble_eq_true rfl) (Nat.le_of_ble_eq_true rfl) (pc' := 195) rfl (fun r60 h62 z61 => ?_)
              obtain ⟨z66, z67⟩ := z61; subst z66; rw [z67]
              show am_S _ _ _ _ _ _ _ (195, [some (.ref 22), some (.int q26), some (.int (am_fields.getD j40 0))], [.int q57], h35, 0, 0) _
              refine am_steps ok_Mo_isMessage 1 (x' := (if (q57 : Int32) = 0 then 209 else 198, [some (.ref 22), some (.int q26), some (.int (am_fields.getD j40 0))], [], h35, 0, 0)) rfl (Nat.le_of_ble_eq_true rfl) (Nat.le_of_ble_eq_true rfl) ?_
              refine am_if (fun hc68 => ?_) (fun hc68 => ?_)
              · rw [if_pos hc68] at hd
                refine am_steps ok_Mo_isMessage 1 (x' := (210, [some (.ref 22), some (.int q26), some (.int (am_fields.getD j40 0))], [.int 0], h35, 0, 0)) rfl (Nat.le_of_ble_eq_true rfl) (Nat.le_of_ble_eq_true rfl) ?_
                cases hd; exact am_ret ok_Mo_isMessage rfl (Nat.le_of_ble_eq_true rfl) (Nat.le_of_ble_eq_true rfl) ⟨rfl, hM36, f37⟩
              · rw [if_neg hc68] at hd
                refine am_steps ok_Mo_isMessage 1 (x' := (199, [some (.ref 22), some (.int q26), some (.int (am_fields.getD j40 0))], [.ref 22], h35, 0, 0)) rfl (Nat.le_of_ble_eq_true rfl) (Nat.le_of_ble_eq_true rfl) ?_
                obtain ⟨q69, hq70, hd71⟩ := Option.bind_eq_some_iff.mp hd; clear hd; have hd := hd71; clear hd71
                refine ar_cv ok_Mo_isMessage hk_Mo_leavesOne rfl rfl (As := []) (ad := 22) (rest := []) rfl rfl hM36.1 (Nat.le_of_ble_eq_true rfl) (k_Mo_leavesOne  q30 h35 hM36 q69 hq70) (Nat.le_of_ble_eq_true rfl) (Nat.le_of_ble_eq_true rfl) (Nat.le_of_ble_eq_true rfl) (Nat.le_of_ble_eq_true rfl) (pc' := 202) rfl (fun r72 h74 z73 => ?_)
                obtain ⟨z78, z79⟩ := z73; subst z78; rw [z79]
                show am_S _ _ _ _ _ _ _ (202, [some (.ref 22), some (.int q26), some (.int (am_fields.getD j40 0))], [.int q69], h35, 0, 0) _
                refine am_steps ok_Mo_isMessage 1 (x' := (if (q69 : Int32) = 0 then 209 else 205, [some (.ref 22), some (.int q26), some (.int (am_fields.getD j40 0))], [], h35, 0, 0)) rfl (Nat.le_of_ble_eq_true rfl) (Nat.le_of_ble_eq_true rfl) ?_
                refine am_if (fun hc80 => ?_) (fun hc80 => ?_)
                · rw [if_pos hc80] at hd
                  refine am_steps ok_Mo_isMessage 1 (x' := (210, [some (.ref 22), some (.int q26), some (.int (am_fields.getD j40 0))], [.int 0], h35, 0, 0)) rfl (Nat.le_of_ble_eq_true rfl) (Nat.le_of_ble_eq_true rfl) ?_
                  cases hd; exact am_ret ok_Mo_isMessage rfl (Nat.le_of_ble_eq_true rfl) (Nat.le_of_ble_eq_true rfl) ⟨rfl, hM36, f37⟩
                · rw [if_neg hc80] at hd
                  refine am_steps ok_Mo_isMessage 2 (x' := (210, [some (.ref 22), some (.int q26), some (.int (am_fields.getD j40 0))], [.int 1], h35, 0, 0)) rfl (Nat.le_of_ble_eq_true rfl) (Nat.le_of_ble_eq_true rfl) ?_
                  cases hd; exact am_ret ok_Mo_isMessage rfl (Nat.le_of_ble_eq_true rfl) (Nat.le_of_ble_eq_true rfl) ⟨rfl, hM36, f37⟩
        · rw [if_neg hc43] at hd
          refine am_steps ok_Mo_isMessage 1 (x' := (90, [some (.ref 22), some (.int q26), some (.int (am_fields.getD j40 0))], [.ref 22], h35, 0, 0)) rfl (Nat.le_of_ble_eq_true rfl) (Nat.le_of_ble_eq_true rfl) ?_
          refine mr_get ok_Mo_isMessage rfl hM36 (v := .int (q30.1 3)) rfl (pc' := 93) rfl (Nat.le_of_ble_eq_true rfl) (Nat.le_of_ble_eq_true rfl) ?_
          refine am_steps ok_Mo_isMessage 2 (x' := (if ((q30.1 3) : Int32) < 19 then 146 else 98, [some (.ref 22), some (.int q26), some (.int (am_fields.getD j40 0))], [], h35, 0, 0)) rfl (Nat.le_of_ble_eq_true rfl) (Nat.le_of_ble_eq_true rfl) ?_
          refine am_if (fun hc81 => ?_) (fun hc81 => ?_)
          · rw [if_pos hc81] at hd
            refine am_steps ok_Mo_isMessage 1 (x' := (147, [some (.ref 22), some (.int q26), some (.int (am_fields.getD j40 0))], [.int 0], h35, 0, 0)) rfl (Nat.le_of_ble_eq_true rfl) (Nat.le_of_ble_eq_true rfl) ?_
            cases hd; exact am_ret ok_Mo_isMessage rfl (Nat.le_of_ble_eq_true rfl) (Nat.le_of_ble_eq_true rfl) ⟨rfl, hM36, f37⟩
          · rw [if_neg hc81] at hd
            refine am_steps ok_Mo_isMessage 1 (x' := (99, [some (.ref 22), some (.int q26), some (.int (am_fields.getD j40 0))], [.ref 22], h35, 0, 0)) rfl (Nat.le_of_ble_eq_true rfl) (Nat.le_of_ble_eq_true rfl) ?_
            refine mr_get ok_Mo_isMessage rfl hM36 (v := .ref 24) rfl (pc' := 102) rfl (Nat.le_of_ble_eq_true rfl) (Nat.le_of_ble_eq_true rfl) ?_
            refine am_steps ok_Mo_isMessage 1 (x' := (104, [some (.ref 22), some (.int q26), some (.int (am_fields.getD j40 0))], [.int 15, .ref 24], h35, 0, 0)) rfl (Nat.le_of_ble_eq_true rfl) (Nat.le_of_ble_eq_true rfl) ?_
            obtain ⟨j82, hx83, hd84⟩ := Option.bind_eq_some_iff.mp hd; clear hd; have hd := hd84; clear hd84
            refine mr_bald ok_Mo_isMessage rfl hM36 (N := 400) (by decide) (Or.inl rfl) hx83 (pc' := 105) rfl (Nat.le_of_ble_eq_true rfl) (Nat.le_of_ble_eq_true rfl) ?_
            refine am_steps ok_Mo_isMessage 2 (x' := (if ((q30.2.2.1 24 j82) : Int32) < 49 then 146 else 110, [some (.ref 22), some (.int q26), some (.int (am_fields.getD j40 0))], [], h35, 0, 0)) rfl (Nat.le_of_ble_eq_true rfl) (Nat.le_of_ble_eq_true rfl) ?_
            refine am_if (fun hc85 => ?_) (fun hc85 => ?_)
            · rw [if_pos hc85] at hd
              refine am_steps ok_Mo_isMessage 1 (x' := (147, [some (.ref 22), some (.int q26), some (.int (am_fields.getD j40 0))], [.int 0], h35, 0, 0)) rfl (Nat.le_of_ble_eq_true rfl) (Nat.le_of_ble_eq_true rfl) ?_
              cases hd; exact am_ret ok_Mo_isMessage rfl (Nat.le_of_ble_eq_true rfl) (Nat.le_of_ble_eq_true rfl) ⟨rfl, hM36, f37⟩
            · rw [if_neg hc85] at hd
              refine am_steps ok_Mo_isMessage 1 (x' := (111, [some (.ref 22), some (.int q26), some (.int (am_fields.getD j40 0))], [.ref 22], h35, 0, 0)) rfl (Nat.le_of_ble_eq_true rfl) (Nat.le_of_ble_eq_true rfl) ?_
              refine mr_get ok_Mo_isMessage rfl hM36 (v := .ref 24) rfl (pc' := 114) rfl (Nat.le_of_ble_eq_true rfl) (Nat.le_of_ble_eq_true rfl) ?_
              refine am_steps ok_Mo_isMessage 1 (x' := (116, [some (.ref 22), some (.int q26), some (.int (am_fields.getD j40 0))], [.int 15, .ref 24], h35, 0, 0)) rfl (Nat.le_of_ble_eq_true rfl) (Nat.le_of_ble_eq_true rfl) ?_
              refine mr_bald ok_Mo_isMessage rfl hM36 (N := 400) (by decide) (Or.inl rfl) hx83 (pc' := 117) rfl (Nat.le_of_ble_eq_true rfl) (Nat.le_of_ble_eq_true rfl) ?_
              refine am_steps ok_Mo_isMessage 2 (x' := (if (57 : Int32) < (q30.2.2.1 24 j82) then 146 else 122, [some (.ref 22), some (.int q26), some (.int (am_fields.getD j40 0))], [], h35, 0, 0)) rfl (Nat.le_of_ble_eq_true rfl) (Nat.le_of_ble_eq_true rfl) ?_
              refine am_if (fun hc86 => ?_) (fun hc86 => ?_)
              · rw [if_pos hc86] at hd
                refine am_steps ok_Mo_isMessage 1 (x' := (147, [some (.ref 22), some (.int q26), some (.int (am_fields.getD j40 0))], [.int 0], h35, 0, 0)) rfl (Nat.le_of_ble_eq_true rfl) (Nat.le_of_ble_eq_true rfl) ?_
                cases hd; exact am_ret ok_Mo_isMessage rfl (Nat.le_of_ble_eq_true rfl) (Nat.le_of_ble_eq_true rfl) ⟨rfl, hM36, f37⟩
              · rw [if_neg hc86] at hd
                refine am_steps ok_Mo_isMessage 1 (x' := (123, [some (.ref 22), some (.int q26), some (.int (am_fields.getD j40 0))], [.ref 22], h35, 0, 0)) rfl (Nat.le_of_ble_eq_true rfl) (Nat.le_of_ble_eq_true rfl) ?_
                refine mr_get ok_Mo_isMessage rfl hM36 (v := .ref 24) rfl (pc' := 126) rfl (Nat.le_of_ble_eq_true rfl) (Nat.le_of_ble_eq_true rfl) ?_
                refine am_steps ok_Mo_isMessage 1 (x' := (128, [some (.ref 22), some (.int q26), some (.int (am_fields.getD j40 0))], [.int 16, .ref 24], h35, 0, 0)) rfl (Nat.le_of_ble_eq_true rfl) (Nat.le_of_ble_eq_true rfl) ?_
                obtain ⟨j87, hx88, hd89⟩ := Option.bind_eq_some_iff.mp hd; clear hd; have hd := hd89; clear hd89
                refine mr_bald ok_Mo_isMessage rfl hM36 (N := 400) (by decide) (Or.inl rfl) hx88 (pc' := 129) rfl (Nat.le_of_ble_eq_true rfl) (Nat.le_of_ble_eq_true rfl) ?_
                refine am_steps ok_Mo_isMessage 2 (x' := (if ((q30.2.2.1 24 j87) : Int32) < 49 then 146 else 134, [some (.ref 22), some (.int q26), some (.int (am_fields.getD j40 0))], [], h35, 0, 0)) rfl (Nat.le_of_ble_eq_true rfl) (Nat.le_of_ble_eq_true rfl) ?_
                refine am_if (fun hc90 => ?_) (fun hc90 => ?_)
                · rw [if_pos hc90] at hd
                  refine am_steps ok_Mo_isMessage 1 (x' := (147, [some (.ref 22), some (.int q26), some (.int (am_fields.getD j40 0))], [.int 0], h35, 0, 0)) rfl (Nat.le_of_ble_eq_true rfl) (Nat.le_of_ble_eq_true rfl) ?_
                  cases hd; exact am_ret ok_Mo_isMessage rfl (Nat.le_of_ble_eq_true rfl) (Nat.le_of_ble_eq_true rfl) ⟨rfl, hM36, f37⟩
                · rw [if_neg hc90] at hd
                  refine am_steps ok_Mo_isMessage 1 (x' := (135, [some (.ref 22), some (.int q26), some (.int (am_fields.getD j40 0))], [.ref 22], h35, 0, 0)) rfl (Nat.le_of_ble_eq_true rfl) (Nat.le_of_ble_eq_true rfl) ?_
                  refine mr_get ok_Mo_isMessage rfl hM36 (v := .ref 24) rfl (pc' := 138) rfl (Nat.le_of_ble_eq_true rfl) (Nat.le_of_ble_eq_true rfl) ?_
                  refine am_steps ok_Mo_isMessage 1 (x' := (140, [some (.ref 22), some (.int q26), some (.int (am_fields.getD j40 0))], [.int 16, .ref 24], h35, 0, 0)) rfl (Nat.le_of_ble_eq_true rfl) (Nat.le_of_ble_eq_true rfl) ?_
                  refine mr_bald ok_Mo_isMessage rfl hM36 (N := 400) (by decide) (Or.inl rfl) hx88 (pc' := 141) rfl (Nat.le_of_ble_eq_true rfl) (Nat.le_of_ble_eq_true rfl) ?_
                  refine am_steps ok_Mo_isMessage 2 (x' := (if ((q30.2.2.1 24 j87) : Int32) ≤ 52 then 148 else 146, [some (.ref 22), some (.int q26), some (.int (am_fields.getD j40 0))], [], h35, 0, 0)) rfl (Nat.le_of_ble_eq_true rfl) (Nat.le_of_ble_eq_true rfl) ?_
                  refine am_if (fun hc91 => ?_) (fun hc91 => ?_)
                  · rw [if_pos hc91] at hd
                    refine am_steps ok_Mo_isMessage 3 (x' := (152, [some (.ref 22), some (.int q26), some (.int (am_fields.getD j40 0))], [.ref 22, .int 26, .int (am_fields.getD j40 0)], h35, 0, 0)) rfl (Nat.le_of_ble_eq_true rfl) (Nat.le_of_ble_eq_true rfl) ?_
                    refine mr_get ok_Mo_isMessage rfl hM36 (v := .ref 24) rfl (pc' := 155) rfl (Nat.le_of_ble_eq_true rfl) (Nat.le_of_ble_eq_true rfl) ?_
                    refine am_steps ok_Mo_isMessage 1 (x' := (157, [some (.ref 22), some (.int q26), some (.int (am_fields.getD j40 0))], [.int 16, .ref 24, .int 26, .int (am_fields.getD j40 0)], h35, 0, 0)) rfl (Nat.le_of_ble_eq_true rfl) (Nat.le_of_ble_eq_true rfl) ?_
                    refine mr_bald ok_Mo_isMessage rfl hM36 (N := 400) (by decide) (Or.inl rfl) hx88 (pc' := 158) rfl (Nat.le_of_ble_eq_true rfl) (Nat.le_of_ble_eq_true rfl) ?_
                    refine am_steps ok_Mo_isMessage 6 (x' := (165, [some (.ref 22), some (.int q26), some (.int ((am_fields.getD j40 0) + (26 * ((q30.2.2.1 24 j87) - 48))))], [.ref 22], h35, 0, 0)) rfl (Nat.le_of_ble_eq_true rfl) (Nat.le_of_ble_eq_true rfl) ?_
                    refine mr_get ok_Mo_isMessage rfl hM36 (v := .int (q30.1 3)) rfl (pc' := 168) rfl (Nat.le_of_ble_eq_true rfl) (Nat.le_of_ble_eq_true rfl) ?_
                    refine am_steps ok_Mo_isMessage 6 (x' := (if ¬ ((q30.1 3) : Int32) = ((15 + ((am_fields.getD j40 0) + (26 * ((q30.2.2.1 24 j87) - 48)))) + 2) then 209 else 177, [some (.ref 22), some (.int q26), some (.int ((am_fields.getD j40 0) + (26 * ((q30.2.2.1 24 j87) - 48))))], [], h35, 0, 0)) rfl (Nat.le_of_ble_eq_true rfl) (Nat.le_of_ble_eq_true rfl) ?_
                    refine am_if (fun hc92 => ?_) (fun hc92 => ?_)
                    · rw [if_pos hc92] at hd
                      refine am_steps ok_Mo_isMessage 1 (x' := (210, [some (.ref 22), some (.int q26), some (.int ((am_fields.getD j40 0) + (26 * ((q30.2.2.1 24 j87) - 48))))], [.int 0], h35, 0, 0)) rfl (Nat.le_of_ble_eq_true rfl) (Nat.le_of_ble_eq_true rfl) ?_
                      cases hd; exact am_ret ok_Mo_isMessage rfl (Nat.le_of_ble_eq_true rfl) (Nat.le_of_ble_eq_true rfl) ⟨rfl, hM36, f37⟩
                    · rw [if_neg hc92] at hd
                      refine am_steps ok_Mo_isMessage 1 (x' := (178, [some (.ref 22), some (.int q26), some (.int ((am_fields.getD j40 0) + (26 * ((q30.2.2.1 24 j87) - 48))))], [.ref 22], h35, 0, 0)) rfl (Nat.le_of_ble_eq_true rfl) (Nat.le_of_ble_eq_true rfl) ?_
                      obtain ⟨q93, hq94, hd95⟩ := Option.bind_eq_some_iff.mp hd; clear hd; have hd := hd95; clear hd95
                      refine ar_cv ok_Mo_isMessage hk_Mo_areFields rfl rfl (As := []) (ad := 22) (rest := []) rfl rfl hM36.1 (Nat.le_of_ble_eq_true rfl) (k_Mo_areFields  q30 h35 hM36 q93 hq94) (Nat.le_of_ble_eq_true rfl) (Nat.le_of_ble_eq_true rfl) (Nat.le_of_ble_eq_true rfl) (Nat.le_of_ble_eq_true rfl) (pc' := 181) rfl (fun r96 h98 z97 => ?_)
                      obtain ⟨z102, z103⟩ := z97; subst z102; rw [z103]
                      show am_S _ _ _ _ _ _ _ (181, [some (.ref 22), some (.int q26), some (.int ((am_fields.getD j40 0) + (26 * ((q30.2.2.1 24 j87) - 48))))], [.int q93], h35, 0, 0) _
                      refine am_steps ok_Mo_isMessage 1 (x' := (if (q93 : Int32) = 0 then 209 else 184, [some (.ref 22), some (.int q26), some (.int ((am_fields.getD j40 0) + (26 * ((q30.2.2.1 24 j87) - 48))))], [], h35, 0, 0)) rfl (Nat.le_of_ble_eq_true rfl) (Nat.le_of_ble_eq_true rfl) ?_
                      refine am_if (fun hc104 => ?_) (fun hc104 => ?_)
                      · rw [if_pos hc104] at hd
                        refine am_steps ok_Mo_isMessage 1 (x' := (210, [some (.ref 22), some (.int q26), some (.int ((am_fields.getD j40 0) + (26 * ((q30.2.2.1 24 j87) - 48))))], [.int 0], h35, 0, 0)) rfl (Nat.le_of_ble_eq_true rfl) (Nat.le_of_ble_eq_true rfl) ?_
                        cases hd; exact am_ret ok_Mo_isMessage rfl (Nat.le_of_ble_eq_true rfl) (Nat.le_of_ble_eq_true rfl) ⟨rfl, hM36, f37⟩
                      · rw [if_neg hc104] at hd
                        refine am_steps ok_Mo_isMessage 2 (x' := (186, [some (.ref 22), some (.int q26), some (.int ((am_fields.getD j40 0) + (26 * ((q30.2.2.1 24 j87) - 48))))], [.ref 22, .ref 22], h35, 0, 0)) rfl (Nat.le_of_ble_eq_true rfl) (Nat.le_of_ble_eq_true rfl) ?_
                        refine mr_get ok_Mo_isMessage rfl hM36 (v := .int (q30.1 3)) rfl (pc' := 189) rfl (Nat.le_of_ble_eq_true rfl) (Nat.le_of_ble_eq_true rfl) ?_
                        refine am_steps ok_Mo_isMessage 3 (x' := (192, [some (.ref 22), some (.int q26), some (.int ((am_fields.getD j40 0) + (26 * ((q30.2.2.1 24 j87) - 48))))], [.int 2, .int ((q30.1 3) - 2), .ref 22], h35, 0, 0)) rfl (Nat.le_of_ble_eq_true rfl) (Nat.le_of_ble_eq_true rfl) ?_
                        obtain ⟨q105, hq106, hd107⟩ := Option.bind_eq_some_iff.mp hd; clear hd; have hd := hd107; clear hd107
                        refine ar_cv ok_Mo_isMessage hk_Mo_areDigits rfl rfl (As := [.int ((q30.1 3) - 2), .int 2]) (ad := 22) (rest := []) rfl rfl hM36.1 (Nat.le_of_ble_eq_true rfl) (k_Mo_areDigits ((q30.1 3) - 2) 2 q30 h35 hM36 q105 hq106) (Nat.le_of_ble_eq_true rfl) (Nat.le_of_ble_eq_true rfl) (Nat.le_of_ble_eq_true rfl) (Nat.le_of_ble_eq_true rfl) (pc' := 195) rfl (fun r108 h110 z109 => ?_)
                        obtain ⟨z114, z115⟩ := z109; subst z114; rw [z115]
                        show am_S _ _ _ _ _ _ _ (195, [some (.ref 22), some (.int q26), some (.int ((am_fields.getD j40 0) + (26 * ((q30.2.2.1 24 j87) - 48))))], [.int q105], h35, 0, 0) _
                        refine am_steps ok_Mo_isMessage 1 (x' := (if (q105 : Int32) = 0 then 209 else 198, [some (.ref 22), some (.int q26), some (.int ((am_fields.getD j40 0) + (26 * ((q30.2.2.1 24 j87) - 48))))], [], h35, 0, 0)) rfl (Nat.le_of_ble_eq_true rfl) (Nat.le_of_ble_eq_true rfl) ?_
                        refine am_if (fun hc116 => ?_) (fun hc116 => ?_)
                        · rw [if_pos hc116] at hd
                          refine am_steps ok_Mo_isMessage 1 (x' := (210, [some (.ref 22), some (.int q26), some (.int ((am_fields.getD j40 0) + (26 * ((q30.2.2.1 24 j87) - 48))))], [.int 0], h35, 0, 0)) rfl (Nat.le_of_ble_eq_true rfl) (Nat.le_of_ble_eq_true rfl) ?_
                          cases hd; exact am_ret ok_Mo_isMessage rfl (Nat.le_of_ble_eq_true rfl) (Nat.le_of_ble_eq_true rfl) ⟨rfl, hM36, f37⟩
                        · rw [if_neg hc116] at hd
                          refine am_steps ok_Mo_isMessage 1 (x' := (199, [some (.ref 22), some (.int q26), some (.int ((am_fields.getD j40 0) + (26 * ((q30.2.2.1 24 j87) - 48))))], [.ref 22], h35, 0, 0)) rfl (Nat.le_of_ble_eq_true rfl) (Nat.le_of_ble_eq_true rfl) ?_
                          obtain ⟨q117, hq118, hd119⟩ := Option.bind_eq_some_iff.mp hd; clear hd; have hd := hd119; clear hd119
                          refine ar_cv ok_Mo_isMessage hk_Mo_leavesOne rfl rfl (As := []) (ad := 22) (rest := []) rfl rfl hM36.1 (Nat.le_of_ble_eq_true rfl) (k_Mo_leavesOne  q30 h35 hM36 q117 hq118) (Nat.le_of_ble_eq_true rfl) (Nat.le_of_ble_eq_true rfl) (Nat.le_of_ble_eq_true rfl) (Nat.le_of_ble_eq_true rfl) (pc' := 202) rfl (fun r120 h122 z121 => ?_)
                          obtain ⟨z126, z127⟩ := z121; subst z126; rw [z127]
                          show am_S _ _ _ _ _ _ _ (202, [some (.ref 22), some (.int q26), some (.int ((am_fields.getD j40 0) + (26 * ((q30.2.2.1 24 j87) - 48))))], [.int q117], h35, 0, 0) _
                          refine am_steps ok_Mo_isMessage 1 (x' := (if (q117 : Int32) = 0 then 209 else 205, [some (.ref 22), some (.int q26), some (.int ((am_fields.getD j40 0) + (26 * ((q30.2.2.1 24 j87) - 48))))], [], h35, 0, 0)) rfl (Nat.le_of_ble_eq_true rfl) (Nat.le_of_ble_eq_true rfl) ?_
                          refine am_if (fun hc128 => ?_) (fun hc128 => ?_)
                          · rw [if_pos hc128] at hd
                            refine am_steps ok_Mo_isMessage 1 (x' := (210, [some (.ref 22), some (.int q26), some (.int ((am_fields.getD j40 0) + (26 * ((q30.2.2.1 24 j87) - 48))))], [.int 0], h35, 0, 0)) rfl (Nat.le_of_ble_eq_true rfl) (Nat.le_of_ble_eq_true rfl) ?_
                            cases hd; exact am_ret ok_Mo_isMessage rfl (Nat.le_of_ble_eq_true rfl) (Nat.le_of_ble_eq_true rfl) ⟨rfl, hM36, f37⟩
                          · rw [if_neg hc128] at hd
                            refine am_steps ok_Mo_isMessage 2 (x' := (210, [some (.ref 22), some (.int q26), some (.int ((am_fields.getD j40 0) + (26 * ((q30.2.2.1 24 j87) - 48))))], [.int 1], h35, 0, 0)) rfl (Nat.le_of_ble_eq_true rfl) (Nat.le_of_ble_eq_true rfl) ?_
                            cases hd; exact am_ret ok_Mo_isMessage rfl (Nat.le_of_ble_eq_true rfl) (Nat.le_of_ble_eq_true rfl) ⟨rfl, hM36, f37⟩
                  · rw [if_neg hc91] at hd
                    refine am_steps ok_Mo_isMessage 1 (x' := (147, [some (.ref 22), some (.int q26), some (.int (am_fields.getD j40 0))], [.int 0], h35, 0, 0)) rfl (Nat.le_of_ble_eq_true rfl) (Nat.le_of_ble_eq_true rfl) ?_
                    cases hd; exact am_ret ok_Mo_isMessage rfl (Nat.le_of_ble_eq_true rfl) (Nat.le_of_ble_eq_true rfl) ⟨rfl, hM36, f37⟩
      · rw [if_neg hc39] at hd
        refine am_steps ok_Mo_isMessage 1 (x' := (71, [some (.ref 22), some (.int q26), none], [.int 0], h35, 0, 0)) rfl (Nat.le_of_ble_eq_true rfl) (Nat.le_of_ble_eq_true rfl) ?_
        cases hd; exact am_ret ok_Mo_isMessage rfl (Nat.le_of_ble_eq_true rfl) (Nat.le_of_ble_eq_true rfl) ⟨rfl, hM36, f37⟩
    · rw [if_neg hc29] at hd
      refine am_steps ok_Mo_isMessage 1 (x' := (58, [some (.ref 22), some (.int q26), none], [.int 0], h0, 0, 0)) rfl (Nat.le_of_ble_eq_true rfl) (Nat.le_of_ble_eq_true rfl) ?_
      cases hd; exact am_ret ok_Mo_isMessage rfl (Nat.le_of_ble_eq_true rfl) (Nat.le_of_ble_eq_true rfl) ⟨rfl, hM, (mF.rf)⟩
  clear hB4; have hd := hA3; clear hA3
  refine am_if (fun hc129 => ?_) (fun hc129 => ?_)
  · rw [if_pos hc129] at hd
    refine am_steps ok_Mo_isMessage 1 (x' := (14, [some (.ref 22), none, none], [.int 0], h0, 0, 0)) rfl (Nat.le_of_ble_eq_true rfl) (Nat.le_of_ble_eq_true rfl) ?_
    cases hd; exact K2 
  · rw [if_neg hc129] at hd
    refine am_steps ok_Mo_isMessage 2 (x' := (14, [some (.ref 22), none, none], [.int 1], h0, 0, 0)) rfl (Nat.le_of_ble_eq_true rfl) (Nat.le_of_ble_eq_true rfl) ?_
    cases hd; exact K2 
