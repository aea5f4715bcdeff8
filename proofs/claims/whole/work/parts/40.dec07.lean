/-! Methods of the reference as functions of its state. -/
def d_Mo_isAhead (a : Int32) (b : Int32) (s : mS) : Option (Int32) := (am_ix a 250).bind fun j1 => ((am_ix b 250).bind fun j4 => (if ((s.2.2.1 44 j1) : Int32) = (s.2.2.1 44 j4) then (if (0 : Int32) ≤ (lg_cmp (s.2.2.2 47 j1) (s.2.2.2 47 j4)) then (some 0) else (some 1)) else (if ((s.2.2.1 44 j4) : Int32) ≤ (s.2.2.1 44 j1) then (some 0) else (some 1))))
set_option maxHeartbeats 4000000 in
set_option maxRecDepth 100000 in
theorem k_Mo_isAhead (a : Int32) (b : Int32) (s : mS) (h0 : am_H) (hM : RM s h0) (q : Int32) (hd : d_Mo_isAhead a b s = some q) : am_Me am_Pr none 0 0 0 0 60 [.ref 22, .int a, .int b] h0 (am_is (some (.int q)) h0) := by
  refine am_enter (d := hd_Mo_isAhead) rfl (by decide +kernel) (Nat.le_of_ble_eq_true rfl) ?_
  show am_S _ _ _ _ _ _ _ (0, [some (.ref 22), some (.int a), some (.int b)], [], h0, 0, 0) _
  unfold d_Mo_isAhead at hd
  refine am_steps ok_Mo_isAhead 1 (x' := (1, [some (.ref 22), some (.int a), some (.int b)], [.ref 22], h0, 0, 0)) rfl (Nat.le_of_ble_eq_true rfl) (Nat.le_of_ble_eq_true rfl) ?_
  refine mr_get ok_Mo_isAhead rfl hM (v := .ref 44) rfl (pc' := 4) rfl (Nat.le_of_ble_eq_true rfl) (Nat.le_of_ble_eq_true rfl) ?_
  refine am_steps ok_Mo_isAhead 1 (x' := (5, [some (.ref 22), some (.int a), some (.int b)], [.int a, .ref 44], h0, 0, 0)) rfl (Nat.le_of_ble_eq_true rfl) (Nat.le_of_ble_eq_true rfl) ?_
  obtain ⟨j1, hx2, hd3⟩ := Option.bind_eq_some_iff.mp hd; clear hd; have hd := hd3; clear hd3
  refine mr_iald ok_Mo_isAhead rfl hM (N := 250) (by decide) hx2 (pc' := 6) rfl (Nat.le_of_ble_eq_true rfl) (Nat.le_of_ble_eq_true rfl) ?_
  refine am_steps ok_Mo_isAhead 1 (x' := (7, [some (.ref 22), some (.int a), some (.int b)], [.ref 22, .int (s.2.2.1 44 j1)], h0, 0, 0)) rfl (Nat.le_of_ble_eq_true rfl) (Nat.le_of_ble_eq_true rfl) ?_
  refine mr_get ok_Mo_isAhead rfl hM (v := .ref 44) rfl (pc' := 10) rfl (Nat.le_of_ble_eq_true rfl) (Nat.le_of_ble_eq_true rfl) ?_
  refine am_steps ok_Mo_isAhead 1 (x' := (11, [some (.ref 22), some (.int a), some (.int b)], [.int b, .ref 44, .int (s.2.2.1 44 j1)], h0, 0, 0)) rfl (Nat.le_of_ble_eq_true rfl) (Nat.le_of_ble_eq_true rfl) ?_
  obtain ⟨j4, hx5, hd6⟩ := Option.bind_eq_some_iff.mp hd; clear hd; have hd := hd6; clear hd6
  refine mr_iald ok_Mo_isAhead rfl hM (N := 250) (by decide) hx5 (pc' := 12) rfl (Nat.le_of_ble_eq_true rfl) (Nat.le_of_ble_eq_true rfl) ?_
  refine am_steps ok_Mo_isAhead 1 (x' := (if ((s.2.2.1 44 j1) : Int32) = (s.2.2.1 44 j4) then 38 else 15, [some (.ref 22), some (.int a), some (.int b)], [], h0, 0, 0)) rfl (Nat.le_of_ble_eq_true rfl) (Nat.le_of_ble_eq_true rfl) ?_
  refine am_if (fun hc7 => ?_) (fun hc7 => ?_)
  · rw [if_pos hc7] at hd
    refine am_steps ok_Mo_isAhead 1 (x' := (39, [some (.ref 22), some (.int a), some (.int b)], [.ref 22], h0, 0, 0)) rfl (Nat.le_of_ble_eq_true rfl) (Nat.le_of_ble_eq_true rfl) ?_
    refine mr_get ok_Mo_isAhead rfl hM (v := .ref 47) rfl (pc' := 42) rfl (Nat.le_of_ble_eq_true rfl) (Nat.le_of_ble_eq_true rfl) ?_
    refine am_steps ok_Mo_isAhead 1 (x' := (43, [some (.ref 22), some (.int a), some (.int b)], [.int a, .ref 47], h0, 0, 0)) rfl (Nat.le_of_ble_eq_true rfl) (Nat.le_of_ble_eq_true rfl) ?_
    refine mr_lald ok_Mo_isAhead rfl hM (N := 250) (by decide) hx2 (pc' := 44) rfl (Nat.le_of_ble_eq_true rfl) (Nat.le_of_ble_eq_true rfl) ?_
    refine am_steps ok_Mo_isAhead 1 (x' := (45, [some (.ref 22), some (.int a), some (.int b)], [.ref 22, .long (s.2.2.2 47 j1)], h0, 0, 0)) rfl (Nat.le_of_ble_eq_true rfl) (Nat.le_of_ble_eq_true rfl) ?_
    refine mr_get ok_Mo_isAhead rfl hM (v := .ref 47) rfl (pc' := 48) rfl (Nat.le_of_ble_eq_true rfl) (Nat.le_of_ble_eq_true rfl) ?_
    refine am_steps ok_Mo_isAhead 1 (x' := (49, [some (.ref 22), some (.int a), some (.int b)], [.int b, .ref 47, .long (s.2.2.2 47 j1)], h0, 0, 0)) rfl (Nat.le_of_ble_eq_true rfl) (Nat.le_of_ble_eq_true rfl) ?_
    refine mr_lald ok_Mo_isAhead rfl hM (N := 250) (by decide) hx5 (pc' := 50) rfl (Nat.le_of_ble_eq_true rfl) (Nat.le_of_ble_eq_true rfl) ?_
    refine am_steps ok_Mo_isAhead 2 (x' := (if (0 : Int32) ≤ (lg_cmp (s.2.2.2 47 j1) (s.2.2.2 47 j4)) then 58 else 54, [some (.ref 22), some (.int a), some (.int b)], [], h0, 0, 0)) rfl (Nat.le_of_ble_eq_true rfl) (Nat.le_of_ble_eq_true rfl) ?_
    refine am_if (fun hc8 => ?_) (fun hc8 => ?_)
    · rw [if_pos hc8] at hd
      refine am_steps ok_Mo_isAhead 1 (x' := (59, [some (.ref 22), some (.int a), some (.int b)], [.int 0], h0, 0, 0)) rfl (Nat.le_of_ble_eq_true rfl) (Nat.le_of_ble_eq_true rfl) ?_
      cases hd; exact am_ret ok_Mo_isAhead rfl (Nat.le_of_ble_eq_true rfl) (Nat.le_of_ble_eq_true rfl) ⟨rfl, rfl⟩
    · rw [if_neg hc8] at hd
      refine am_steps ok_Mo_isAhead 2 (x' := (59, [some (.ref 22), some (.int a), some (.int b)], [.int 1], h0, 0, 0)) rfl (Nat.le_of_ble_eq_true rfl) (Nat.le_of_ble_eq_true rfl) ?_
      cases hd; exact am_ret ok_Mo_isAhead rfl (Nat.le_of_ble_eq_true rfl) (Nat.le_of_ble_eq_true rfl) ⟨rfl, rfl⟩
  · rw [if_neg hc7] at hd
    refine am_steps ok_Mo_isAhead 1 (x' := (16, [some (.ref 22), some (.int a), some (.int b)], [.ref 22], h0, 0, 0)) rfl (Nat.le_of_ble_eq_true rfl) (Nat.le_of_ble_eq_true rfl) ?_
    refine mr_get ok_Mo_isAhead rfl hM (v := .ref 44) rfl (pc' := 19) rfl (Nat.le_of_ble_eq_true rfl) (Nat.le_of_ble_eq_true rfl) ?_
    refine am_steps ok_Mo_isAhead 1 (x' := (20, [some (.ref 22), some (.int a), some (.int b)], [.int a, .ref 44], h0, 0, 0)) rfl (Nat.le_of_ble_eq_true rfl) (Nat.le_of_ble_eq_true rfl) ?_
    refine mr_iald ok_Mo_isAhead rfl hM (N := 250) (by decide) hx2 (pc' := 21) rfl (Nat.le_of_ble_eq_true rfl) (Nat.le_of_ble_eq_true rfl) ?_
    refine am_steps ok_Mo_isAhead 1 (x' := (22, [some (.ref 22), some (.int a), some (.int b)], [.ref 22, .int (s.2.2.1 44 j1)], h0, 0, 0)) rfl (Nat.le_of_ble_eq_true rfl) (Nat.le_of_ble_eq_true rfl) ?_
    refine mr_get ok_Mo_isAhead rfl hM (v := .ref 44) rfl (pc' := 25) rfl (Nat.le_of_ble_eq_true rfl) (Nat.le_of_ble_eq_true rfl) ?_
    refine am_steps ok_Mo_isAhead 1 (x' := (26, [some (.ref 22), some (.int a), some (.int b)], [.int b, .ref 44, .int (s.2.2.1 44 j1)], h0, 0, 0)) rfl (Nat.le_of_ble_eq_true rfl) (Nat.le_of_ble_eq_true rfl) ?_
    refine mr_iald ok_Mo_isAhead rfl hM (N := 250) (by decide) hx5 (pc' := 27) rfl (Nat.le_of_ble_eq_true rfl) (Nat.le_of_ble_eq_true rfl) ?_
    refine am_steps ok_Mo_isAhead 1 (x' := (if ((s.2.2.1 44 j4) : Int32) ≤ (s.2.2.1 44 j1) then 34 else 30, [some (.ref 22), some (.int a), some (.int b)], [], h0, 0, 0)) rfl (Nat.le_of_ble_eq_true rfl) (Nat.le_of_ble_eq_true rfl) ?_
    refine am_if (fun hc9 => ?_) (fun hc9 => ?_)
    · rw [if_pos hc9] at hd
      refine am_steps ok_Mo_isAhead 2 (x' := (59, [some (.ref 22), some (.int a), some (.int b)], [.int 0], h0, 0, 0)) rfl (Nat.le_of_ble_eq_true rfl) (Nat.le_of_ble_eq_true rfl) ?_
      cases hd; exact am_ret ok_Mo_isAhead rfl (Nat.le_of_ble_eq_true rfl) (Nat.le_of_ble_eq_true rfl) ⟨rfl, rfl⟩
    · rw [if_neg hc9] at hd
      refine am_steps ok_Mo_isAhead 2 (x' := (59, [some (.ref 22), some (.int a), some (.int b)], [.int 1], h0, 0, 0)) rfl (Nat.le_of_ble_eq_true rfl) (Nat.le_of_ble_eq_true rfl) ?_
      cases hd; exact am_ret ok_Mo_isAhead rfl (Nat.le_of_ble_eq_true rfl) (Nat.le_of_ble_eq_true rfl) ⟨rfl, rfl⟩
def l_Mo_sort_32 : Nat → Int32 → Int32 → mS → Option (Int32 × mS)
  | 0, _, _, _ => none
  | fu + 1, v1, v2, s => if (v2 : Int32) ≤ 0 then (some (v2, s)) else ((am_ix (v2 - 1) 250).bind fun j18 => ((d_Mo_isAhead v1 (s.2.2.1 55 j18) s).bind fun q21 => (if (q21 : Int32) = 0 then (some (v2, s)) else ((am_ix v2 250).bind fun j33 => (l_Mo_sort_32 fu v1 (v2 + (-1)) (mA s 55 j33 (s.2.2.1 55 j18)))))))
set_option maxHeartbeats 4000000 in
set_option maxRecDepth 100000 in
theorem L_Mo_sort_32 {Q : Option Value → am_H → Prop} (h0 : am_H) : ∀ (fu : Nat) (v1 : Int32) (v2 : Int32) (s : mS) (h : am_H), RM s h → mF h0 h → ∀ q : Int32 × mS, l_Mo_sort_32 fu v1 v2 s = some q → (∀ h' : am_H, RM q.2 h' → mF h0 h' → am_S am_Pr none 1 22 0 0 59 (72, [some (.ref 22), some (.int v1), some (.int q.1)], [], h', 0, 0) Q) → am_S am_Pr none 1 22 0 0 59 (32, [some (.ref 22), some (.int v1), some (.int v2)], [], h, 0, 0) Q := by
  intro fu
  induction fu with
  | zero => intro v1 v2 s h hM f q hd; cases hd
  | succ fu ih =>
    intro v1 v2 s h hM f q hd kk
    unfold l_Mo_sort_32 at hd
    refine am_steps ok_Mo_sort 2 (x' := (if (v2 : Int32) ≤ 0 then 72 else 36, [some (.ref 22), some (.int v1), some (.int v2)], [], h, 0, 0)) rfl (Nat.le_of_ble_eq_true rfl) (Nat.le_of_ble_eq_true rfl) ?_
    refine am_if (fun hc17 => ?_) (fun hc17 => ?_)
    · rw [if_pos hc17] at hd
      cases hd; exact kk h hM f
    · rw [if_neg hc17] at hd
      refine am_steps ok_Mo_sort 3 (x' := (39, [some (.ref 22), some (.int v1), some (.int v2)], [.ref 22, .int v1, .ref 22], h, 0, 0)) rfl (Nat.le_of_ble_eq_true rfl) (Nat.le_of_ble_eq_true rfl) ?_
      refine mr_get ok_Mo_sort rfl hM (v := .ref 55) rfl (pc' := 42) rfl (Nat.le_of_ble_eq_true rfl) (Nat.le_of_ble_eq_true rfl) ?_
      refine am_steps ok_Mo_sort 3 (x' := (45, [some (.ref 22), some (.int v1), some (.int v2)], [.int (v2 - 1), .ref 55, .int v1, .ref 22], h, 0, 0)) rfl (Nat.le_of_ble_eq_true rfl) (Nat.le_of_ble_eq_true rfl) ?_
      obtain ⟨j18, hx19, hd20⟩ := Option.bind_eq_some_iff.mp hd; clear hd; have hd := hd20; clear hd20
      refine mr_iald ok_Mo_sort rfl hM (N := 250) (by decide) hx19 (pc' := 46) rfl (Nat.le_of_ble_eq_true rfl) (Nat.le_of_ble_eq_true rfl) ?_
      obtain ⟨q21, hq22, hd23⟩ := Option.bind_eq_some_iff.mp hd; clear hd; have hd := hd23; clear hd23
      refine ar_cv ok_Mo_sort hk_Mo_isAhead rfl rfl (As := [.int v1, .int (s.2.2.1 55 j18)]) (ad := 22) (rest := []) rfl rfl hM.1 (Nat.le_of_ble_eq_true rfl) (k_Mo_isAhead v1 (s.2.2.1 55 j18) s h hM q21 hq22) (Nat.le_of_ble_eq_true rfl) (Nat.le_of_ble_eq_true rfl) (Nat.le_of_ble_eq_true rfl) (Nat.le_of_ble_eq_true rfl) (pc' := 49) rfl (fun r24 h26 z25 => ?_)
      obtain ⟨z30, z31⟩ := z25; subst z30; rw [z31]
      show am_S _ _ _ _ _ _ _ (49, [some (.ref 22), some (.int v1), some (.int v2)], [.int q21], h, 0, 0) _
      refine am_steps ok_Mo_sort 1 (x' := (if (q21 : Int32) = 0 then 72 else 52, [some (.ref 22), some (.int v1), some (.int v2)], [], h, 0, 0)) rfl (Nat.le_of_ble_eq_true rfl) (Nat.le_of_ble_eq_true rfl) ?_
      refine am_if (fun hc32 => ?_) (fun hc32 => ?_)
      · rw [if_pos hc32] at hd
        cases hd; exact kk h hM f
      · rw [if_neg hc32] at hd
        refine am_steps ok_Mo_sort 1 (x' := (53, [some (.ref 22), some (.int v1), some (.int v2)], [.ref 22], h, 0, 0)) rfl (Nat.le_of_ble_eq_true rfl) (Nat.le_of_ble_eq_true rfl) ?_
        refine mr_get ok_Mo_sort rfl hM (v := .ref 55) rfl (pc' := 56) rfl (Nat.le_of_ble_eq_true rfl) (Nat.le_of_ble_eq_true rfl) ?_
        refine am_steps ok_Mo_sort 2 (x' := (58, [some (.ref 22), some (.int v1), some (.int v2)], [.ref 22, .int v2, .ref 55], h, 0, 0)) rfl (Nat.le_of_ble_eq_true rfl) (Nat.le_of_ble_eq_true rfl) ?_
        refine mr_get ok_Mo_sort rfl hM (v := .ref 55) rfl (pc' := 61) rfl (Nat.le_of_ble_eq_true rfl) (Nat.le_of_ble_eq_true rfl) ?_
        refine am_steps ok_Mo_sort 3 (x' := (64, [some (.ref 22), some (.int v1), some (.int v2)], [.int (v2 - 1), .ref 55, .int v2, .ref 55], h, 0, 0)) rfl (Nat.le_of_ble_eq_true rfl) (Nat.le_of_ble_eq_true rfl) ?_
        refine mr_iald ok_Mo_sort rfl hM (N := 250) (by decide) hx19 (pc' := 65) rfl (Nat.le_of_ble_eq_true rfl) (Nat.le_of_ble_eq_true rfl) ?_
        obtain ⟨j33, hx34, hd35⟩ := Option.bind_eq_some_iff.mp hd; clear hd; have hd := hd35; clear hd35
        refine mr_iast ok_Mo_sort rfl hM (N := 250) (by decide) hx34 (pc' := 66) rfl (Nat.le_of_ble_eq_true rfl) (Nat.le_of_ble_eq_true rfl) (fun h36 hM37 g39 => ?_)
        have f38 := mF.tr f g39
        refine am_steps ok_Mo_sort 2 (x' := (32, [some (.ref 22), some (.int v1), some (.int (v2 + (-1)))], [], h36, 0, 0)) rfl (Nat.le_of_ble_eq_true rfl) (Nat.le_of_ble_eq_true rfl) ?_
        exact ih v1 (v2 + (-1)) (mA s 55 j33 (s.2.2.1 55 j18)) h36 hM37 f38 q hd kk
def l_Mo_sort_7 : Nat → Int32 → mS → Option (mS)
  | 0, _, _ => none
  | fu + 1, v1, s => if ((s.1 31) : Int32) ≤ v1 then (some s) else ((am_ix v1 250).bind fun j6 => ((if ¬ ((s.2.2.1 48 j6) : Int32) = 0 then ((l_Mo_sort_32 100000 v1 (s.1 32) s).bind fun q40 => ((am_ix q40.1 250).bind fun j46 => (some (mI (mA q40.2 55 j46 v1) 32 ((q40.2.1 32) + 1))))) else (some s)).bind fun (u9 : mS) => (l_Mo_sort_7 fu (v1 + 1) u9)))
set_option maxHeartbeats 4000000 in
set_option maxRecDepth 100000 in
theorem L_Mo_sort_7 {Q : Option Value → am_H → Prop} (h0 : am_H) : ∀ (fu : Nat) (v1 : Int32) (s : mS) (h : am_H), RM s h → mF h0 h → ∀ q : mS, l_Mo_sort_7 fu v1 s = some q → (∀ h' : am_H, RM q h' → mF h0 h' → am_S am_Pr none 1 22 0 0 59 (95, [some (.ref 22), none, none], [], h', 0, 0) Q) → am_S am_Pr none 1 22 0 0 59 (7, [some (.ref 22), some (.int v1), none], [], h, 0, 0) Q := by
  intro fu
  induction fu with
  | zero => intro v1 s h hM f q hd; cases hd
  | succ fu ih =>
    intro v1 s h hM f q hd kk
    unfold l_Mo_sort_7 at hd
    refine am_steps ok_Mo_sort 2 (x' := (9, [some (.ref 22), some (.int v1), none], [.ref 22, .int v1], h, 0, 0)) rfl (Nat.le_of_ble_eq_true rfl) (Nat.le_of_ble_eq_true rfl) ?_
    refine mr_get ok_Mo_sort rfl hM (v := .int (s.1 31)) rfl (pc' := 12) rfl (Nat.le_of_ble_eq_true rfl) (Nat.le_of_ble_eq_true rfl) ?_
    refine am_steps ok_Mo_sort 1 (x' := (if ((s.1 31) : Int32) ≤ v1 then 95 else 15, [some (.ref 22), some (.int v1), none], [], h, 0, 0)) rfl (Nat.le_of_ble_eq_true rfl) (Nat.le_of_ble_eq_true rfl) ?_
    refine am_if (fun hc5 => ?_) (fun hc5 => ?_)
    · rw [if_pos hc5] at hd
      refine am_drop 1 ?_
      cases hd; exact kk h hM f
    · rw [if_neg hc5] at hd
      refine am_steps ok_Mo_sort 1 (x' := (16, [some (.ref 22), some (.int v1), none], [.ref 22], h, 0, 0)) rfl (Nat.le_of_ble_eq_true rfl) (Nat.le_of_ble_eq_true rfl) ?_
      refine mr_get ok_Mo_sort rfl hM (v := .ref 48) rfl (pc' := 19) rfl (Nat.le_of_ble_eq_true rfl) (Nat.le_of_ble_eq_true rfl) ?_
      refine am_steps ok_Mo_sort 1 (x' := (20, [some (.ref 22), some (.int v1), none], [.int v1, .ref 48], h, 0, 0)) rfl (Nat.le_of_ble_eq_true rfl) (Nat.le_of_ble_eq_true rfl) ?_
      obtain ⟨j6, hx7, hd8⟩ := Option.bind_eq_some_iff.mp hd; clear hd; have hd := hd8; clear hd8
      refine mr_bald ok_Mo_sort rfl hM (N := 250) (by decide) (Or.inr rfl) hx7 (pc' := 21) rfl (Nat.le_of_ble_eq_true rfl) (Nat.le_of_ble_eq_true rfl) ?_
      refine am_steps ok_Mo_sort 1 (x' := (if ¬ ((s.2.2.1 48 j6) : Int32) = 0 then 27 else 24, [some (.ref 22), some (.int v1), none], [], h, 0, 0)) rfl (Nat.le_of_ble_eq_true rfl) (Nat.le_of_ble_eq_true rfl) ?_
      obtain ⟨u9, hA11, hB12⟩ := Option.bind_eq_some_iff.mp hd; clear hd
      have K10 : ∀ h' : am_H, RM u9 h' → mF h0 h' → am_S am_Pr none 1 22 0 0 59 (89, [some (.ref 22), some (.int v1), none], [], h', 0, 0) Q := by
        have hd := hB12
        intro h13 hM14 f15
        refine am_steps ok_Mo_sort 2 (x' := (7, [some (.ref 22), some (.int (v1 + 1)), none], [], h13, 0, 0)) rfl (Nat.le_of_ble_eq_true rfl) (Nat.le_of_ble_eq_true rfl) ?_
        exact ih (v1 + 1) u9 h13 hM14 f15 q hd kk
      clear hB12; have hd := hA11; clear hA11
      refine am_if (fun hc16 => ?_) (fun hc16 => ?_)
      · rw [if_pos hc16] at hd
        refine am_steps ok_Mo_sort 1 (x' := (28, [some (.ref 22), some (.int v1), none], [.ref 22], h, 0, 0)) rfl (Nat.le_of_ble_eq_true rfl) (Nat.le_of_ble_eq_true rfl) ?_
        refine mr_get ok_Mo_sort rfl hM (v := .int (s.1 32)) rfl (pc' := 31) rfl (Nat.le_of_ble_eq_true rfl) (Nat.le_of_ble_eq_true rfl) ?_
        refine am_steps ok_Mo_sort 1 (x' := (32, [some (.ref 22), some (.int v1), some (.int (s.1 32))], [], h, 0, 0)) rfl (Nat.le_of_ble_eq_true rfl) (Nat.le_of_ble_eq_true rfl) ?_
        obtain ⟨q40, hq41, hd42⟩ := Option.bind_eq_some_iff.mp hd; clear hd; have hd := hd42; clear hd42
        refine L_Mo_sort_32 h0 100000 v1 (s.1 32) s h hM f q40 hq41 (fun h43 hM44 f45 => ?_)
        show am_S _ _ _ _ _ _ _ (72, [some (.ref 22), some (.int v1), some (.int q40.1)], [], h43, 0, 0) _
        refine am_steps ok_Mo_sort 1 (x' := (73, [some (.ref 22), some (.int v1), some (.int q40.1)], [.ref 22], h43, 0, 0)) rfl (Nat.le_of_ble_eq_true rfl) (Nat.le_of_ble_eq_true rfl) ?_
        refine mr_get ok_Mo_sort rfl hM44 (v := .ref 55) rfl (pc' := 76) rfl (Nat.le_of_ble_eq_true rfl) (Nat.le_of_ble_eq_true rfl) ?_
        refine am_steps ok_Mo_sort 2 (x' := (78, [some (.ref 22), some (.int v1), some (.int q40.1)], [.int v1, .int q40.1, .ref 55], h43, 0, 0)) rfl (Nat.le_of_ble_eq_true rfl) (Nat.le_of_ble_eq_true rfl) ?_
        obtain ⟨j46, hx47, hd48⟩ := Option.bind_eq_some_iff.mp hd; clear hd; have hd := hd48; clear hd48
        refine mr_iast ok_Mo_sort rfl hM44 (N := 250) (by decide) hx47 (pc' := 79) rfl (Nat.le_of_ble_eq_true rfl) (Nat.le_of_ble_eq_true rfl) (fun h49 hM50 g52 => ?_)
        have f51 := mF.tr f45 g52
        refine am_steps ok_Mo_sort 2 (x' := (81, [some (.ref 22), some (.int v1), some (.int q40.1)], [.ref 22, .ref 22], h49, 0, 0)) rfl (Nat.le_of_ble_eq_true rfl) (Nat.le_of_ble_eq_true rfl) ?_
        refine mr_get ok_Mo_sort rfl hM50 (v := .int (q40.2.1 32)) rfl (pc' := 84) rfl (Nat.le_of_ble_eq_true rfl) (Nat.le_of_ble_eq_true rfl) ?_
        refine am_steps ok_Mo_sort 2 (x' := (86, [some (.ref 22), some (.int v1), some (.int q40.1)], [.int ((q40.2.1 32) + 1), .ref 22], h49, 0, 0)) rfl (Nat.le_of_ble_eq_true rfl) (Nat.le_of_ble_eq_true rfl) ?_
        refine mr_put ok_Mo_sort rfl hM50 (by decide) rfl (s' := (mI (mA q40.2 55 j46 v1) 32 ((q40.2.1 32) + 1))) (mfs_32 _ _) rfl (pc' := 89) rfl (Nat.le_of_ble_eq_true rfl) (Nat.le_of_ble_eq_true rfl) (fun h53 hM54 g56 => ?_)
        have f55 := mF.tr f51 g56
        refine am_drop 2 ?_
        cases hd; exact K10 h53 hM54 f55
      · rw [if_neg hc16] at hd
        refine am_steps ok_Mo_sort 1 (x' := (89, [some (.ref 22), some (.int v1), none], [], h, 0, 0)) rfl (Nat.le_of_ble_eq_true rfl) (Nat.le_of_ble_eq_true rfl) ?_
        cases hd; exact K10 h hM f
def d_Mo_sort  (s : mS) : Option (mS) := (l_Mo_sort_7 100000 0 (mI s 32 0)).bind fun q57 => (some q57)
set_option maxHeartbeats 4000000 in
set_option maxRecDepth 100000 in
theorem k_Mo_sort  (s : mS) (h0 : am_H) (hM : RM s h0) (q : mS) (hd : d_Mo_sort  s = some q) : am_Me am_Pr none 1 22 0 0 59 [.ref 22] h0 (mQv q h0) := by
  refine am_enter (d := hd_Mo_sort) rfl (by decide +kernel) (Nat.le_of_ble_eq_true rfl) ?_
  show am_S _ _ _ _ _ _ _ (0, [some (.ref 22), none, none], [], h0, 0, 0) _
  unfold d_Mo_sort at hd
  refine am_steps ok_Mo_sort 2 (x' := (2, [some (.ref 22), none, none], [.int 0, .ref 22], h0, 0, 0)) rfl (Nat.le_of_ble_eq_true rfl) (Nat.le_of_ble_eq_true rfl) ?_
  refine mr_put ok_Mo_sort rfl hM (by decide) rfl (s' := (mI s 32 0)) (mfs_32 _ _) rfl (pc' := 5) rfl (Nat.le_of_ble_eq_true rfl) (Nat.le_of_ble_eq_true rfl) (fun h1 hM2 g4 => ?_)
  have f3 := mF.tr (mF.rf) g4
  refine am_steps ok_Mo_sort 2 (x' := (7, [some (.ref 22), some (.int 0), none], [], h1, 0, 0)) rfl (Nat.le_of_ble_eq_true rfl) (Nat.le_of_ble_eq_true rfl) ?_
  obtain ⟨q57, hq58, hd59⟩ := Option.bind_eq_some_iff.mp hd; clear hd; have hd := hd59; clear hd59
  refine L_Mo_sort_7 h0 100000 0 (mI s 32 0) h1 hM2 f3 q57 hq58 (fun h60 hM61 f62 => ?_)
  show am_S _ _ _ _ _ _ _ (95, [some (.ref 22), none, none], [], h60, 0, 0) _
  cases hd; exact am_ret ok_Mo_sort rfl (Nat.le_of_ble_eq_true rfl) (Nat.le_of_ble_eq_true rfl) ⟨rfl, hM61, f62⟩
def d_Mo_touch (a : Int32) (s : mS) : Option (mS) := (am_ix a 81920).bind fun j1 => (if ¬ ((s.2.2.1 58 j1) : Int32) = 0 then (some s) else (if ¬ ((s.1 48) : Int32) = 4096 then ((am_ix (s.1 48) 4096).bind fun j10 => (some (mI (mA (mA s 58 j1 (am_bn 3 1)) 56 j10 a) 48 ((s.1 48) + 1)))) else (some s)))
set_option maxHeartbeats 4000000 in
set_option maxRecDepth 100000 in
theorem k_Mo_touch (a : Int32) (s : mS) (h0 : am_H) (hM : RM s h0) (q : mS) (hd : d_Mo_touch a s = some q) : am_Me am_Pr none 0 0 0 0 61 [.ref 22, .int a] h0 (mQv q h0) := by
  refine am_enter (d := hd_Mo_touch) rfl (by decide +kernel) (Nat.le_of_ble_eq_true rfl) ?_
  show am_S _ _ _ _ _ _ _ (0, [some (.ref 22), some (.int a)], [], h0, 0, 0) _
  unfold d_Mo_touch at hd
  refine am_steps ok_Mo_touch 1 (x' := (1, [some (.ref 22), some (.int a)], [.ref 22], h0, 0, 0)) rfl (Nat.le_of_ble_eq_true rfl) (Nat.le_of_ble_eq_true rfl) ?_
  refine mr_get ok_Mo_touch rfl hM (v := .ref 58) rfl (pc' := 4) rfl (Nat.le_of_ble_eq_true rfl) (Nat.le_of_ble_eq_true rfl) ?_
  refine am_steps ok_Mo_touch 1 (x' := (5, [some (.ref 22), some (.int a)], [.int a, .ref 58], h0, 0, 0)) rfl (Nat.le_of_ble_eq_true rfl) (Nat.le_of_ble_eq_true rfl) ?_
  obtain ⟨j1, hx2, hd3⟩ := Option.bind_eq_some_iff.mp hd; clear hd; have hd := hd3; clear hd3
  refine mr_bald ok_Mo_touch rfl hM (N := 81920) (by decide) (Or.inr rfl) hx2 (pc' := 6) rfl (Nat.le_of_ble_eq_true rfl) (Nat.le_of_ble_eq_true rfl) ?_
  refine am_steps ok_Mo_touch 1 (x' := (if ¬ ((s.2.2.1 58 j1) : Int32) = 0 then 21 else 9, [some (.ref 22), some (.int a)], [], h0, 0, 0)) rfl (Nat.le_of_ble_eq_true rfl) (Nat.le_of_ble_eq_true rfl) ?_
  refine am_if (fun hc4 => ?_) (fun hc4 => ?_)
  · rw [if_pos hc4] at hd
    cases hd; exact am_ret ok_Mo_touch rfl (Nat.le_of_ble_eq_true rfl) (Nat.le_of_ble_eq_true rfl) ⟨rfl, hM, (mF.rf)⟩
  · rw [if_neg hc4] at hd
    refine am_steps ok_Mo_touch 1 (x' := (10, [some (.ref 22), some (.int a)], [.ref 22], h0, 0, 0)) rfl (Nat.le_of_ble_eq_true rfl) (Nat.le_of_ble_eq_true rfl) ?_
    refine mr_get ok_Mo_touch rfl hM (v := .int (s.1 48)) rfl (pc' := 13) rfl (Nat.le_of_ble_eq_true rfl) (Nat.le_of_ble_eq_true rfl) ?_
    refine am_steps ok_Mo_touch 1 (x' := (14, [some (.ref 22), some (.int a)], [.ref 22, .int (s.1 48)], h0, 0, 0)) rfl (Nat.le_of_ble_eq_true rfl) (Nat.le_of_ble_eq_true rfl) ?_
    refine mr_get ok_Mo_touch rfl hM (v := .ref 56) rfl (pc' := 17) rfl (Nat.le_of_ble_eq_true rfl) (Nat.le_of_ble_eq_true rfl) ?_
    refine ar_alen ok_Mo_touch rfl (by decide) (hM.2 (56, 0, 4096) (by decide)) (by decide) (w := 4096) (by decide +kernel) (pc' := 18) rfl (Nat.le_of_ble_eq_true rfl) (Nat.le_of_ble_eq_true rfl) ?_
    refine am_steps ok_Mo_touch 1 (x' := (if ¬ ((s.1 48) : Int32) = 4096 then 22 else 21, [some (.ref 22), some (.int a)], [], h0, 0, 0)) rfl (Nat.le_of_ble_eq_true rfl) (Nat.le_of_ble_eq_true rfl) ?_
    refine am_if (fun hc5 => ?_) (fun hc5 => ?_)
    · rw [if_pos hc5] at hd
      refine am_steps ok_Mo_touch 1 (x' := (23, [some (.ref 22), some (.int a)], [.ref 22], h0, 0, 0)) rfl (Nat.le_of_ble_eq_true rfl) (Nat.le_of_ble_eq_true rfl) ?_
      refine mr_get ok_Mo_touch rfl hM (v := .ref 58) rfl (pc' := 26) rfl (Nat.le_of_ble_eq_true rfl) (Nat.le_of_ble_eq_true rfl) ?_
      refine am_steps ok_Mo_touch 2 (x' := (28, [some (.ref 22), some (.int a)], [.int 1, .int a, .ref 58], h0, 0, 0)) rfl (Nat.le_of_ble_eq_true rfl) (Nat.le_of_ble_eq_true rfl) ?_
      refine mr_bast ok_Mo_touch rfl hM (N := 81920) (by decide) (Or.inr rfl) hx2 (pc' := 29) rfl (Nat.le_of_ble_eq_true rfl) (Nat.le_of_ble_eq_true rfl) (fun h6 hM7 g9 => ?_)
      have f8 := mF.tr (mF.rf) g9
      refine am_steps ok_Mo_touch 1 (x' := (30, [some (.ref 22), some (.int a)], [.ref 22], h6, 0, 0)) rfl (Nat.le_of_ble_eq_true rfl) (Nat.le_of_ble_eq_true rfl) ?_
      refine mr_get ok_Mo_touch rfl hM7 (v := .ref 56) rfl (pc' := 33) rfl (Nat.le_of_ble_eq_true rfl) (Nat.le_of_ble_eq_true rfl) ?_
      refine am_steps ok_Mo_touch 1 (x' := (34, [some (.ref 22), some (.int a)], [.ref 22, .ref 56], h6, 0, 0)) rfl (Nat.le_of_ble_eq_true rfl) (Nat.le_of_ble_eq_true rfl) ?_
      refine mr_get ok_Mo_touch rfl hM7 (v := .int (s.1 48)) rfl (pc' := 37) rfl (Nat.le_of_ble_eq_true rfl) (Nat.le_of_ble_eq_true rfl) ?_
      refine am_steps ok_Mo_touch 1 (x' := (38, [some (.ref 22), some (.int a)], [.int a, .int (s.1 48), .ref 56], h6, 0, 0)) rfl (Nat.le_of_ble_eq_true rfl) (Nat.le_of_ble_eq_true rfl) ?_
      obtain ⟨j10, hx11, hd12⟩ := Option.bind_eq_some_iff.mp hd; clear hd; have hd := hd12; clear hd12
      refine mr_iast ok_Mo_touch rfl hM7 (N := 4096) (by decide) hx11 (pc' := 39) rfl (Nat.le_of_ble_eq_true rfl) (Nat.le_of_ble_eq_true rfl) (fun h13 hM14 g16 => ?_)
      have f15 := mF.tr f8 g16
      refine am_steps ok_Mo_touch 2 (x' := (41, [some (.ref 22), some (.int a)], [.ref 22, .ref 22], h13, 0, 0)) rfl (Nat.le_of_ble_eq_true rfl) (Nat.le_of_ble_eq_true rfl) ?_
      refine mr_get ok_Mo_touch rfl hM14 (v := .int (s.1 48)) rfl (pc' := 44) rfl (Nat.le_of_ble_eq_true rfl) (Nat.le_of_ble_eq_true rfl) ?_
      refine am_steps ok_Mo_touch 2 (x' := (46, [some (.ref 22), some (.int a)], [.int ((s.1 48) + 1), .ref 22], h13, 0, 0)) rfl (Nat.le_of_ble_eq_true rfl) (Nat.le_of_ble_eq_true rfl) ?_
      refine mr_put ok_Mo_touch rfl hM14 (by decide) rfl (s' := (mI (mA (mA s 58 j1 (am_bn 3 1)) 56 j10 a) 48 ((s.1 48) + 1))) (mfs_48 _ _) rfl (pc' := 49) rfl (Nat.le_of_ble_eq_true rfl) (Nat.le_of_ble_eq_true rfl) (fun h17 hM18 g20 => ?_)
      have f19 := mF.tr f15 g20
      cases hd; exact am_ret ok_Mo_touch rfl (Nat.le_of_ble_eq_true rfl) (Nat.le_of_ble_eq_true rfl) ⟨rfl, hM18, f19⟩
    · rw [if_neg hc5] at hd
      cases hd; exact am_ret ok_Mo_touch rfl (Nat.le_of_ble_eq_true rfl) (Nat.le_of_ble_eq_true rfl) ⟨rfl, hM, (mF.rf)⟩
def l_Mo_untouch_2 : Nat → Int32 → mS → Option (mS)
  | 0, _, _ => none
  | fu + 1, v1, s => if ((s.1 48) : Int32) ≤ v1 then (some s) else ((am_ix v1 4096).bind fun j2 => ((am_ix (s.2.2.1 56 j2) 81920).bind fun j5 => (l_Mo_untouch_2 fu (v1 + 1) (mB (mA s 58 j5 (am_bn 3 0)) 59 j5 0))))
set_option maxHeartbeats 4000000 in
set_option maxRecDepth 100000 in
theorem L_Mo_untouch_2 {Q : Option Value → am_H → Prop} (h0 : am_H) : ∀ (fu : Nat) (v1 : Int32) (s : mS) (h : am_H), RM s h → mF h0 h → ∀ q : mS, l_Mo_untouch_2 fu v1 s = some q → (∀ h' : am_H, RM q h' → mF h0 h' → am_S am_Pr none 0 0 0 0 62 (40, [some (.ref 22), none], [], h', 0, 0) Q) → am_S am_Pr none 0 0 0 0 62 (2, [some (.ref 22), some (.int v1)], [], h, 0, 0) Q := by
  intro fu
  induction fu with
  | zero => intro v1 s h hM f q hd; cases hd
  | succ fu ih =>
    intro v1 s h hM f q hd kk
    unfold l_Mo_untouch_2 at hd
    refine am_steps ok_Mo_untouch 2 (x' := (4, [some (.ref 22), some (.int v1)], [.ref 22, .int v1], h, 0, 0)) rfl (Nat.le_of_ble_eq_true rfl) (Nat.le_of_ble_eq_true rfl) ?_
    refine mr_get ok_Mo_untouch rfl hM (v := .int (s.1 48)) rfl (pc' := 7) rfl (Nat.le_of_ble_eq_true rfl) (Nat.le_of_ble_eq_true rfl) ?_
    refine am_steps ok_Mo_untouch 1 (x' := (if ((s.1 48) : Int32) ≤ v1 then 40 else 10, [some (.ref 22), some (.int v1)], [], h, 0, 0)) rfl (Nat.le_of_ble_eq_true rfl) (Nat.le_of_ble_eq_true rfl) ?_
    refine am_if (fun hc1 => ?_) (fun hc1 => ?_)
    · rw [if_pos hc1] at hd
      refine am_drop 1 ?_
      cases hd; exact kk h hM f
    · rw [if_neg hc1] at hd
      refine am_steps ok_Mo_untouch 1 (x' := (11, [some (.ref 22), some (.int v1)], [.ref 22], h, 0, 0)) rfl (Nat.le_of_ble_eq_true rfl) (Nat.le_of_ble_eq_true rfl) ?_
      refine mr_get ok_Mo_untouch rfl hM (v := .ref 58) rfl (pc' := 14) rfl (Nat.le_of_ble_eq_true rfl) (Nat.le_of_ble_eq_true rfl) ?_
      refine am_steps ok_Mo_untouch 1 (x' := (15, [some (.ref 22), some (.int v1)], [.ref 22, .ref 58], h, 0, 0)) rfl (Nat.le_of_ble_eq_true rfl) (Nat.le_of_ble_eq_true rfl) ?_
      refine mr_get ok_Mo_untouch rfl hM (v := .ref 56) rfl (pc' := 18) rfl (Nat.le_of_ble_eq_true rfl) (Nat.le_of_ble_eq_true rfl) ?_
      refine am_steps ok_Mo_untouch 1 (x' := (19, [some (.ref 22), some (.int v1)], [.int v1, .ref 56, .ref 58], h, 0, 0)) rfl (Nat.le_of_ble_eq_true rfl) (Nat.le_of_ble_eq_true rfl) ?_
      obtain ⟨j2, hx3, hd4⟩ := Option.bind_eq_some_iff.mp hd; clear hd; have hd := hd4; clear hd4
      refine mr_iald ok_Mo_untouch rfl hM (N := 4096) (by decide) hx3 (pc' := 20) rfl (Nat.le_of_ble_eq_true rfl) (Nat.le_of_ble_eq_true rfl) ?_
      refine am_steps ok_Mo_untouch 1 (x' := (21, [some (.ref 22), some (.int v1)], [.int 0, .int (s.2.2.1 56 j2), .ref 58], h, 0, 0)) rfl (Nat.le_of_ble_eq_true rfl) (Nat.le_of_ble_eq_true rfl) ?_
      obtain ⟨j5, hx6, hd7⟩ := Option.bind_eq_some_iff.mp hd; clear hd; have hd := hd7; clear hd7
      refine mr_bast ok_Mo_untouch rfl hM (N := 81920) (by decide) (Or.inr rfl) hx6 (pc' := 22) rfl (Nat.le_of_ble_eq_true rfl) (Nat.le_of_ble_eq_true rfl) (fun h8 hM9 g11 => ?_)
      have f10 := mF.tr f g11
      refine am_steps ok_Mo_untouch 1 (x' := (23, [some (.ref 22), some (.int v1)], [.ref 22], h8, 0, 0)) rfl (Nat.le_of_ble_eq_true rfl) (Nat.le_of_ble_eq_true rfl) ?_
      refine mr_get ok_Mo_untouch rfl hM9 (v := .ref 59) rfl (pc' := 26) rfl (Nat.le_of_ble_eq_true rfl) (Nat.le_of_ble_eq_true rfl) ?_
      refine am_steps ok_Mo_untouch 1 (x' := (27, [some (.ref 22), some (.int v1)], [.ref 22, .ref 59], h8, 0, 0)) rfl (Nat.le_of_ble_eq_true rfl) (Nat.le_of_ble_eq_true rfl) ?_
      refine mr_get ok_Mo_untouch rfl hM9 (v := .ref 56) rfl (pc' := 30) rfl (Nat.le_of_ble_eq_true rfl) (Nat.le_of_ble_eq_true rfl) ?_
      refine am_steps ok_Mo_untouch 1 (x' := (31, [some (.ref 22), some (.int v1)], [.int v1, .ref 56, .ref 59], h8, 0, 0)) rfl (Nat.le_of_ble_eq_true rfl) (Nat.le_of_ble_eq_true rfl) ?_
      refine mr_iald ok_Mo_untouch rfl hM9 (N := 4096) (by decide) hx3 (pc' := 32) rfl (Nat.le_of_ble_eq_true rfl) (Nat.le_of_ble_eq_true rfl) ?_
      show am_S _ _ _ _ _ _ _ (32, [some (.ref 22), some (.int v1)], [.int (s.2.2.1 56 j2), .ref 59], h8, 0, 0) _
      refine am_steps ok_Mo_untouch 1 (x' := (33, [some (.ref 22), some (.int v1)], [.long 0, .int (s.2.2.1 56 j2), .ref 59], h8, 0, 0)) rfl (Nat.le_of_ble_eq_true rfl) (Nat.le_of_ble_eq_true rfl) ?_
      refine mr_last ok_Mo_untouch rfl hM9 (N := 81920) (by decide) hx6 (pc' := 34) rfl (Nat.le_of_ble_eq_true rfl) (Nat.le_of_ble_eq_true rfl) (fun h12 hM13 g15 => ?_)
      have f14 := mF.tr f10 g15
      refine am_steps ok_Mo_untouch 2 (x' := (2, [some (.ref 22), some (.int (v1 + 1))], [], h12, 0, 0)) rfl (Nat.le_of_ble_eq_true rfl) (Nat.le_of_ble_eq_true rfl) ?_
      exact ih (v1 + 1) (mB (mA s 58 j5 (am_bn 3 0)) 59 j5 0) h12 hM13 f14 q hd kk
def d_Mo_untouch  (s : mS) : Option (mS) := (l_Mo_untouch_2 100000 0 s).bind fun q16 => (some (mI q16 48 0))
set_option maxHeartbeats 4000000 in
set_option maxRecDepth 100000 in
theorem k_Mo_untouch  (s : mS) (h0 : am_H) (hM : RM s h0) (q : mS) (hd : d_Mo_untouch  s = some q) : am_Me am_Pr none 0 0 0 0 62 [.ref 22] h0 (mQv q h0) := by
  refine am_enter (d := hd_Mo_untouch) rfl (by decide +kernel) (Nat.le_of_ble_eq_true rfl) ?_
  show am_S _ _ _ _ _ _ _ (0, [some (.ref 22), none], [], h0, 0, 0) _
  unfold d_Mo_untouch at hd
  refine am_steps ok_Mo_untouch 2 (x' := (2, [some (.ref 22), some (.int 0)], [], h0, 0, 0)) rfl (Nat.le_of_ble_eq_true rfl) (Nat.le_of_ble_eq_true rfl) ?_
  obtain ⟨q16, hq17, hd18⟩ := Option.bind_eq_some_iff.mp hd; clear hd; have hd := hd18; clear hd18
  refine L_Mo_untouch_2 h0 100000 0 s h0 hM (mF.rf) q16 hq17 (fun h19 hM20 f21 => ?_)
  show am_S _ _ _ _ _ _ _ (40, [some (.ref 22), none], [], h19, 0, 0) _
  refine am_steps ok_Mo_untouch 2 (x' := (42, [some (.ref 22), none], [.int 0, .ref 22], h19, 0, 0)) rfl (Nat.le_of_ble_eq_true rfl) (Nat.le_of_ble_eq_true rfl) ?_
  refine mr_put ok_Mo_untouch rfl hM20 (by decide) rfl (s' := (mI q16 48 0)) (mfs_48 _ _) rfl (pc' := 45) rfl (Nat.le_of_ble_eq_true rfl) (Nat.le_of_ble_eq_true rfl) (fun h22 hM23 g25 => ?_)
  have f24 := mF.tr f21 g25
  cases hd; exact am_ret ok_Mo_untouch rfl (Nat.le_of_ble_eq_true rfl) (Nat.le_of_ble_eq_true rfl) ⟨rfl, hM23, f24⟩
def l_Mo_touchTaken_8 : Nat → Int32 → Int32 → Int32 → mS → Option (mS)
  | 0, _, _, _, _ => none
  | fu + 1, v1, v2, v3, s => if (v2 : Int32) ≤ v3 then (some s) else ((am_ix v3 16).bind fun j11 => ((d_Mo_net v1 (s.2.2.1 57 j11) s).bind fun q14 => ((if (0 : Int32) ≤ (lg_cmp q14 0) then (some s) else ((d_Mo_touch (s.2.2.1 57 j11) s).bind fun q33 => (some q33))).bind fun (u25 : mS) => (l_Mo_touchTaken_8 fu v1 v2 (v3 + 1) u25))))
set_option maxHeartbeats 4000000 in
set_option maxRecDepth 100000 in
theorem L_Mo_touchTaken_8 {Q : Option Value → am_H → Prop} (h0 : am_H) : ∀ (fu : Nat) (v1 : Int32) (v2 : Int32) (v3 : Int32) (s : mS) (h : am_H), RM s h → mF h0 h → ∀ q : mS, l_Mo_touchTaken_8 fu v1 v2 v3 s = some q → (∀ h' : am_H, RM q h' → mF h0 h' → am_S am_Pr none 2 48 0 0 63 (45, [some (.ref 22), some (.int v1), some (.int v2), none], [], h', 0, 0) Q) → am_S am_Pr none 2 48 0 0 63 (8, [some (.ref 22), some (.int v1), some (.int v2), some (.int v3)], [], h, 0, 0) Q := by
  intro fu
  induction fu with
  | zero => intro v1 v2 v3 s h hM f q hd; cases hd
  | succ fu ih =>
    intro v1 v2 v3 s h hM f q hd kk
    unfold l_Mo_touchTaken_8 at hd
    refine am_steps ok_Mo_touchTaken 3 (x' := (if (v2 : Int32) ≤ v3 then 45 else 13, [some (.ref 22), some (.int v1), some (.int v2), some (.int v3)], [], h, 0, 0)) rfl (Nat.le_of_ble_eq_true rfl) (Nat.le_of_ble_eq_true rfl) ?_
    refine am_if (fun hc10 => ?_) (fun hc10 => ?_)
    · rw [if_pos hc10] at hd
      refine am_drop 3 ?_
      cases hd; exact kk h hM f
    · rw [if_neg hc10] at hd
      refine am_steps ok_Mo_touchTaken 3 (x' := (16, [some (.ref 22), some (.int v1), some (.int v2), some (.int v3)], [.ref 22, .int v1, .ref 22], h, 0, 0)) rfl (Nat.le_of_ble_eq_true rfl) (Nat.le_of_ble_eq_true rfl) ?_
      refine mr_get ok_Mo_touchTaken rfl hM (v := .ref 57) rfl (pc' := 19) rfl (Nat.le_of_ble_eq_true rfl) (Nat.le_of_ble_eq_true rfl) ?_
      refine am_steps ok_Mo_touchTaken 1 (x' := (20, [some (.ref 22), some (.int v1), some (.int v2), some (.int v3)], [.int v3, .ref 57, .int v1, .ref 22], h, 0, 0)) rfl (Nat.le_of_ble_eq_true rfl) (Nat.le_of_ble_eq_true rfl) ?_
      obtain ⟨j11, hx12, hd13⟩ := Option.bind_eq_some_iff.mp hd; clear hd; have hd := hd13; clear hd13
      refine mr_iald ok_Mo_touchTaken rfl hM (N := 16) (by decide) hx12 (pc' := 21) rfl (Nat.le_of_ble_eq_true rfl) (Nat.le_of_ble_eq_true rfl) ?_
      obtain ⟨q14, hq15, hd16⟩ := Option.bind_eq_some_iff.mp hd; clear hd; have hd := hd16; clear hd16
      refine ar_cv ok_Mo_touchTaken hk_Mo_net rfl rfl (As := [.int v1, .int (s.2.2.1 57 j11)]) (ad := 22) (rest := []) rfl rfl hM.1 (Nat.le_of_ble_eq_true rfl) (k_Mo_net v1 (s.2.2.1 57 j11) s h hM q14 hq15) (Nat.le_of_ble_eq_true rfl) (Nat.le_of_ble_eq_true rfl) (Nat.le_of_ble_eq_true rfl) (Nat.le_of_ble_eq_true rfl) (pc' := 24) rfl (fun r17 h19 z18 => ?_)
      obtain ⟨z23, z24⟩ := z18; subst z23; rw [z24]
      show am_S _ _ _ _ _ _ _ (24, [some (.ref 22), some (.int v1), some (.int v2), some (.int v3)], [.long q14], h, 0, 0) _
      refine am_steps ok_Mo_touchTaken 3 (x' := (if (0 : Int32) ≤ (lg_cmp q14 0) then 39 else 29, [some (.ref 22), some (.int v1), some (.int v2), some (.int v3)], [], h, 0, 0)) rfl (Nat.le_of_ble_eq_true rfl) (Nat.le_of_ble_eq_true rfl) ?_
      obtain ⟨u25, hA27, hB28⟩ := Option.bind_eq_some_iff.mp hd; clear hd
      have K26 : ∀ h' : am_H, RM u25 h' → mF h0 h' → am_S am_Pr none 2 48 0 0 63 (39, [some (.ref 22), some (.int v1), some (.int v2), some (.int v3)], [], h', 0, 0) Q := by
        have hd := hB28
        intro h29 hM30 f31
        refine am_steps ok_Mo_touchTaken 2 (x' := (8, [some (.ref 22), some (.int v1), some (.int v2), some (.int (v3 + 1))], [], h29, 0, 0)) rfl (Nat.le_of_ble_eq_true rfl) (Nat.le_of_ble_eq_true rfl) ?_
        exact ih v1 v2 (v3 + 1) u25 h29 hM30 f31 q hd kk
      clear hB28; have hd := hA27; clear hA27
      refine am_if (fun hc32 => ?_) (fun hc32 => ?_)
      · rw [if_pos hc32] at hd
        cases hd; exact K26 h hM f
      · rw [if_neg hc32] at hd
        refine am_steps ok_Mo_touchTaken 2 (x' := (31, [some (.ref 22), some (.int v1), some (.int v2), some (.int v3)], [.ref 22, .ref 22], h, 0, 0)) rfl (Nat.le_of_ble_eq_true rfl) (Nat.le_of_ble_eq_true rfl) ?_
        refine mr_get ok_Mo_touchTaken rfl hM (v := .ref 57) rfl (pc' := 34) rfl (Nat.le_of_ble_eq_true rfl) (Nat.le_of_ble_eq_true rfl) ?_
        refine am_steps ok_Mo_touchTaken 1 (x' := (35, [some (.ref 22), some (.int v1), some (.int v2), some (.int v3)], [.int v3, .ref 57, .ref 22], h, 0, 0)) rfl (Nat.le_of_ble_eq_true rfl) (Nat.le_of_ble_eq_true rfl) ?_
        refine mr_iald ok_Mo_touchTaken rfl hM (N := 16) (by decide) hx12 (pc' := 36) rfl (Nat.le_of_ble_eq_true rfl) (Nat.le_of_ble_eq_true rfl) ?_
        obtain ⟨q33, hq34, hd35⟩ := Option.bind_eq_some_iff.mp hd; clear hd; have hd := hd35; clear hd35
        refine ar_cv ok_Mo_touchTaken hk_Mo_touch rfl rfl (As := [.int (s.2.2.1 57 j11)]) (ad := 22) (rest := []) rfl rfl hM.1 (Nat.le_of_ble_eq_true rfl) (k_Mo_touch (s.2.2.1 57 j11) s h hM q33 hq34) (Nat.le_of_ble_eq_true rfl) (Nat.le_of_ble_eq_true rfl) (Nat.le_of_ble_eq_true rfl) (Nat.le_of_ble_eq_true rfl) (pc' := 39) rfl (fun r36 h38 z37 => ?_)
        obtain ⟨rfl, hM39, g41⟩ := z37
        have f40 := mF.tr f g41
        show am_S _ _ _ _ _ _ _ (39, [some (.ref 22), some (.int v1), some (.int v2), some (.int v3)], [], h38, 0, 0) _
        cases hd; exact K26 h38 hM39 f40
def d_Mo_touchTaken (a : Int32) (s : mS) : Option (mS) := (d_Mo_places a s).bind fun q1 => ((l_Mo_touchTaken_8 100000 a q1.1 0 q1.2).bind fun q42 => (some q42))
set_option maxHeartbeats 4000000 in
set_option maxRecDepth 100000 in
theorem k_Mo_touchTaken (a : Int32) (s : mS) (h0 : am_H) (hM : RM s h0) (q : mS) (hd : d_Mo_touchTaken a s = some q) : am_Me am_Pr none 2 48 0 0 63 [.ref 22, .int a] h0 (mQv q h0) := by
  refine am_enter (d := hd_Mo_touchTaken) rfl (by decide +kernel) (Nat.le_of_ble_eq_true rfl) ?_
  show am_S _ _ _ _ _ _ _ (0, [some (.ref 22), some (.int a), none, none], [], h0, 0, 0) _
  unfold d_Mo_touchTaken at hd
  refine am_steps ok_Mo_touchTaken 2 (x' := (2, [some (.ref 22), some (.int a), none, none], [.int a, .ref 22], h0, 0, 0)) rfl (Nat.le_of_ble_eq_true rfl) (Nat.le_of_ble_eq_true rfl) ?_
  obtain ⟨q1, hq2, hd3⟩ := Option.bind_eq_some_iff.mp hd; clear hd; have hd := hd3; clear hd3
  refine ar_cv ok_Mo_touchTaken hk_Mo_places rfl rfl (As := [.int a]) (ad := 22) (rest := []) rfl rfl hM.1 (Nat.le_of_ble_eq_true rfl) (k_Mo_places a s h0 hM q1 hq2) (Nat.le_of_ble_eq_true rfl) (Nat.le_of_ble_eq_true rfl) (Nat.le_of_ble_eq_true rfl) (Nat.le_of_ble_eq_true rfl) (pc' := 5) rfl (fun r4 h6 z5 => ?_)
  obtain ⟨rfl, hM7, g9⟩ := z5
  have f8 := mF.tr (mF.rf) g9
  show am_S _ _ _ _ _ _ _ (5, [some (.ref 22), some (.int a), none, none], [.int q1.1], h6, 0, 0) _
  refine am_steps ok_Mo_touchTaken 3 (x' := (8, [some (.ref 22), some (.int a), some (.int q1.1), some (.int 0)], [], h6, 0, 0)) rfl (Nat.le_of_ble_eq_true rfl) (Nat.le_of_ble_eq_true rfl) ?_
  obtain ⟨q42, hq43, hd44⟩ := Option.bind_eq_some_iff.mp hd; clear hd; have hd := hd44; clear hd44
  refine L_Mo_touchTaken_8 h0 100000 a q1.1 0 q1.2 h6 hM7 f8 q42 hq43 (fun h45 hM46 f47 => ?_)
  show am_S _ _ _ _ _ _ _ (45, [some (.ref 22), some (.int a), some (.int q1.1), none], [], h45, 0, 0) _
  cases hd; exact am_ret ok_Mo_touchTaken rfl (Nat.le_of_ble_eq_true rfl) (Nat.le_of_ble_eq_true rfl) ⟨rfl, hM46, f47⟩
def l_Mo_firstAble_40 : Nat → Int32 → Int32 → Int32 → Int32 → Int32 → Int32 → mS → Option (Int32)
  | 0, _, _, _, _, _, _, _ => none
  | fu + 1, v1, v2, v3, v4, v5, v6, s => if (v4 : Int32) ≤ v6 then (some v5) else ((am_ix v6 16).bind fun j25 => ((d_Mo_net v3 (s.2.2.1 57 j25) s).bind fun q28 => ((if (0 : Int32) ≤ (lg_cmp q28 0) then (some v5) else ((am_ix (s.2.2.1 57 j25) 81920).bind fun j44 => (if ¬ ((s.2.2.1 58 j44) : Int32) = 0 then (some 0) else ((d_Mo_value (s.2.2.1 57 j25) s).bind fun q48 => ((d_Mo_floor (s.2.2.1 57 j25) s).bind fun q59 => (if (0 : Int32) ≤ (lg_cmp (q48 + q28) q59) then (some v5) else (some 0))))))).bind fun (u39 : Int32) => (l_Mo_firstAble_40 fu v1 v2 v3 v4 u39 (v6 + 1) s))))
set_option maxHeartbeats 4000000 in
set_option maxRecDepth 100000 in
theorem L_Mo_firstAble_40 {Q : Option Value → am_H → Prop} (s : mS) (h : am_H) (hM : RM s h) : ∀ (fu : Nat) (v1 : Int32) (v2 : Int32) (v3 : Int32) (v4 : Int32) (v5 : Int32) (v6 : Int32) (q : Int32), l_Mo_firstAble_40 fu v1 v2 v3 v4 v5 v6 s = some q → am_S am_Pr none 3 79 0 0 64 (121, [some (.ref 22), some (.int v1), some (.int v2), some (.int v3), some (.int v4), some (.int q), none, none, none], [], h, 0, 0) Q → am_S am_Pr none 3 79 0 0 64 (40, [some (.ref 22), some (.int v1), some (.int v2), some (.int v3), some (.int v4), some (.int v5), some (.int v6), none, none], [], h, 0, 0) Q := by
  intro fu
  induction fu with
  | zero => intro v1 v2 v3 v4 v5 v6 q hd; cases hd
  | succ fu ih =>
    intro v1 v2 v3 v4 v5 v6 q hd kk
    unfold l_Mo_firstAble_40 at hd
    refine am_steps ok_Mo_firstAble 3 (x' := (if (v4 : Int32) ≤ v6 then 121 else 47, [some (.ref 22), some (.int v1), some (.int v2), some (.int v3), some (.int v4), some (.int v5), some (.int v6), none, none], [], h, 0, 0)) rfl (Nat.le_of_ble_eq_true rfl) (Nat.le_of_ble_eq_true rfl) ?_
    refine am_if (fun hc24 => ?_) (fun hc24 => ?_)
    · rw [if_pos hc24] at hd
      refine am_drop 6 ?_
      cases hd; exact kk
    · rw [if_neg hc24] at hd
      refine am_steps ok_Mo_firstAble 3 (x' := (50, [some (.ref 22), some (.int v1), some (.int v2), some (.int v3), some (.int v4), some (.int v5), some (.int v6), none, none], [.ref 22, .int v3, .ref 22], h, 0, 0)) rfl (Nat.le_of_ble_eq_true rfl) (Nat.le_of_ble_eq_true rfl) ?_
      refine mr_get ok_Mo_firstAble rfl hM (v := .ref 57) rfl (pc' := 53) rfl (Nat.le_of_ble_eq_true rfl) (Nat.le_of_ble_eq_true rfl) ?_
      refine am_steps ok_Mo_firstAble 1 (x' := (55, [some (.ref 22), some (.int v1), some (.int v2), some (.int v3), some (.int v4), some (.int v5), some (.int v6), none, none], [.int v6, .ref 57, .int v3, .ref 22], h, 0, 0)) rfl (Nat.le_of_ble_eq_true rfl) (Nat.le_of_ble_eq_true rfl) ?_
      obtain ⟨j25, hx26, hd27⟩ := Option.bind_eq_some_iff.mp hd; clear hd; have hd := hd27; clear hd27
      refine mr_iald ok_Mo_firstAble rfl hM (N := 16) (by decide) hx26 (pc' := 56) rfl (Nat.le_of_ble_eq_true rfl) (Nat.le_of_ble_eq_true rfl) ?_
      obtain ⟨q28, hq29, hd30⟩ := Option.bind_eq_some_iff.mp hd; clear hd; have hd := hd30; clear hd30
      refine ar_cv ok_Mo_firstAble hk_Mo_net rfl rfl (As := [.int v3, .int (s.2.2.1 57 j25)]) (ad := 22) (rest := []) rfl rfl hM.1 (Nat.le_of_ble_eq_true rfl) (k_Mo_net v3 (s.2.2.1 57 j25) s h hM q28 hq29) (Nat.le_of_ble_eq_true rfl) (Nat.le_of_ble_eq_true rfl) (Nat.le_of_ble_eq_true rfl) (Nat.le_of_ble_eq_true rfl) (pc' := 59) rfl (fun r31 h33 z32 => ?_)
      obtain ⟨z37, z38⟩ := z32; subst z37; rw [z38]
      show am_S _ _ _ _ _ _ _ (59, [some (.ref 22), some (.int v1), some (.int v2), some (.int v3), some (.int v4), some (.int v5), some (.int v6), none, none], [.long q28], h, 0, 0) _
      refine am_steps ok_Mo_firstAble 5 (x' := (if (0 : Int32) ≤ (lg_cmp q28 0) then 115 else 68, [some (.ref 22), some (.int v1), some (.int v2), some (.int v3), some (.int v4), some (.int v5), some (.int v6), some (.long q28), none], [], h, 0, 0)) rfl (Nat.le_of_ble_eq_true rfl) (Nat.le_of_ble_eq_true rfl) ?_
      obtain ⟨u39, hA41, hB42⟩ := Option.bind_eq_some_iff.mp hd; clear hd
      have K40 : am_S am_Pr none 3 79 0 0 64 (115, [some (.ref 22), some (.int v1), some (.int v2), some (.int v3), some (.int v4), some (.int u39), some (.int v6), none, none], [], h, 0, 0) Q := by
        have hd := hB42
        refine am_steps ok_Mo_firstAble 2 (x' := (40, [some (.ref 22), some (.int v1), some (.int v2), some (.int v3), some (.int v4), some (.int u39), some (.int (v6 + 1)), none, none], [], h, 0, 0)) rfl (Nat.le_of_ble_eq_true rfl) (Nat.le_of_ble_eq_true rfl) ?_
        exact ih v1 v2 v3 v4 u39 (v6 + 1) q hd kk
      clear hB42; have hd := hA41; clear hA41
      refine am_if (fun hc43 => ?_) (fun hc43 => ?_)
      · rw [if_pos hc43] at hd
        refine am_drop 7 ?_
        cases hd; exact K40 
      · rw [if_neg hc43] at hd
        refine am_steps ok_Mo_firstAble 1 (x' := (69, [some (.ref 22), some (.int v1), some (.int v2), some (.int v3), some (.int v4), some (.int v5), some (.int v6), some (.long q28), none], [.ref 22], h, 0, 0)) rfl (Nat.le_of_ble_eq_true rfl) (Nat.le_of_ble_eq_true rfl) ?_
        refine mr_get ok_Mo_firstAble rfl hM (v := .ref 58) rfl (pc' := 72) rfl (Nat.le_of_ble_eq_true rfl) (Nat.le_of_ble_eq_true rfl) ?_
        refine am_steps ok_Mo_firstAble 1 (x' := (73, [some (.ref 22), some (.int v1), some (.int v2), some (.int v3), some (.int v4), some (.int v5), some (.int v6), some (.long q28), none], [.ref 22, .ref 58], h, 0, 0)) rfl (Nat.le_of_ble_eq_true rfl) (Nat.le_of_ble_eq_true rfl) ?_
        refine mr_get ok_Mo_firstAble rfl hM (v := .ref 57) rfl (pc' := 76) rfl (Nat.le_of_ble_eq_true rfl) (Nat.le_of_ble_eq_true rfl) ?_
        refine am_steps ok_Mo_firstAble 1 (x' := (78, [some (.ref 22), some (.int v1), some (.int v2), some (.int v3), some (.int v4), some (.int v5), some (.int v6), some (.long q28), none], [.int v6, .ref 57, .ref 58], h, 0, 0)) rfl (Nat.le_of_ble_eq_true rfl) (Nat.le_of_ble_eq_true rfl) ?_
        refine mr_iald ok_Mo_firstAble rfl hM (N := 16) (by decide) hx26 (pc' := 79) rfl (Nat.le_of_ble_eq_true rfl) (Nat.le_of_ble_eq_true rfl) ?_
        obtain ⟨j44, hx45, hd46⟩ := Option.bind_eq_some_iff.mp hd; clear hd; have hd := hd46; clear hd46
        refine mr_bald ok_Mo_firstAble rfl hM (N := 81920) (by decide) (Or.inr rfl) hx45 (pc' := 80) rfl (Nat.le_of_ble_eq_true rfl) (Nat.le_of_ble_eq_true rfl) ?_
        refine am_steps ok_Mo_firstAble 1 (x' := (if ¬ ((s.2.2.1 58 j44) : Int32) = 0 then 112 else 83, [some (.ref 22), some (.int v1), some (.int v2), some (.int v3), some (.int v4), some (.int v5), some (.int v6), some (.long q28), none], [], h, 0, 0)) rfl (Nat.le_of_ble_eq_true rfl) (Nat.le_of_ble_eq_true rfl) ?_
        refine am_if (fun hc47 => ?_) (fun hc47 => ?_)
        · rw [if_pos hc47] at hd
          refine am_steps ok_Mo_firstAble 2 (x' := (115, [some (.ref 22), some (.int v1), some (.int v2), some (.int v3), some (.int v4), some (.int 0), some (.int v6), some (.long q28), none], [], h, 0, 0)) rfl (Nat.le_of_ble_eq_true rfl) (Nat.le_of_ble_eq_true rfl) ?_
          refine am_drop 7 ?_
          cases hd; exact K40 
        · rw [if_neg hc47] at hd
          refine am_steps ok_Mo_firstAble 2 (x' := (85, [some (.ref 22), some (.int v1), some (.int v2), some (.int v3), some (.int v4), some (.int v5), some (.int v6), some (.long q28), none], [.ref 22, .ref 22], h, 0, 0)) rfl (Nat.le_of_ble_eq_true rfl) (Nat.le_of_ble_eq_true rfl) ?_
          refine mr_get ok_Mo_firstAble rfl hM (v := .ref 57) rfl (pc' := 88) rfl (Nat.le_of_ble_eq_true rfl) (Nat.le_of_ble_eq_true rfl) ?_
          refine am_steps ok_Mo_firstAble 1 (x' := (90, [some (.ref 22), some (.int v1), some (.int v2), some (.int v3), some (.int v4), some (.int v5), some (.int v6), some (.long q28), none], [.int v6, .ref 57, .ref 22], h, 0, 0)) rfl (Nat.le_of_ble_eq_true rfl) (Nat.le_of_ble_eq_true rfl) ?_
          refine mr_iald ok_Mo_firstAble rfl hM (N := 16) (by decide) hx26 (pc' := 91) rfl (Nat.le_of_ble_eq_true rfl) (Nat.le_of_ble_eq_true rfl) ?_
          obtain ⟨q48, hq49, hd50⟩ := Option.bind_eq_some_iff.mp hd; clear hd; have hd := hd50; clear hd50
          refine ar_cv ok_Mo_firstAble hk_Mo_value rfl rfl (As := [.int (s.2.2.1 57 j25)]) (ad := 22) (rest := []) rfl rfl hM.1 (Nat.le_of_ble_eq_true rfl) (k_Mo_value (s.2.2.1 57 j25) s h hM q48 hq49) (Nat.le_of_ble_eq_true rfl) (Nat.le_of_ble_eq_true rfl) (Nat.le_of_ble_eq_true rfl) (Nat.le_of_ble_eq_true rfl) (pc' := 94) rfl (fun r51 h53 z52 => ?_)
          obtain ⟨z57, z58⟩ := z52; subst z57; rw [z58]
          show am_S _ _ _ _ _ _ _ (94, [some (.ref 22), some (.int v1), some (.int v2), some (.int v3), some (.int v4), some (.int v5), some (.int v6), some (.long q28), none], [.long q48], h, 0, 0) _
          refine am_steps ok_Mo_firstAble 4 (x' := (99, [some (.ref 22), some (.int v1), some (.int v2), some (.int v3), some (.int v4), some (.int v5), some (.int v6), some (.long q28), none], [.ref 22, .ref 22, .long (q48 + q28)], h, 0, 0)) rfl (Nat.le_of_ble_eq_true rfl) (Nat.le_of_ble_eq_true rfl) ?_
          refine mr_get ok_Mo_firstAble rfl hM (v := .ref 57) rfl (pc' := 102) rfl (Nat.le_of_ble_eq_true rfl) (Nat.le_of_ble_eq_true rfl) ?_
          refine am_steps ok_Mo_firstAble 1 (x' := (104, [some (.ref 22), some (.int v1), some (.int v2), some (.int v3), some (.int v4), some (.int v5), some (.int v6), some (.long q28), none], [.int v6, .ref 57, .ref 22, .long (q48 + q28)], h, 0, 0)) rfl (Nat.le_of_ble_eq_true rfl) (Nat.le_of_ble_eq_true rfl) ?_
          refine mr_iald ok_Mo_firstAble rfl hM (N := 16) (by decide) hx26 (pc' := 105) rfl (Nat.le_of_ble_eq_true rfl) (Nat.le_of_ble_eq_true rfl) ?_
          obtain ⟨q59, hq60, hd61⟩ := Option.bind_eq_some_iff.mp hd; clear hd; have hd := hd61; clear hd61
          refine ar_cv ok_Mo_firstAble hk_Mo_floor rfl rfl (As := [.int (s.2.2.1 57 j25)]) (ad := 22) (rest := [.long (q48 + q28)]) rfl rfl hM.1 (Nat.le_of_ble_eq_true rfl) (k_Mo_floor (s.2.2.1 57 j25) s h hM q59 hq60) (Nat.le_of_ble_eq_true rfl) (Nat.le_of_ble_eq_true rfl) (Nat.le_of_ble_eq_true rfl) (Nat.le_of_ble_eq_true rfl) (pc' := 108) rfl (fun r62 h64 z63 => ?_)
          obtain ⟨z68, z69⟩ := z63; subst z68; rw [z69]
          show am_S _ _ _ _ _ _ _ (108, [some (.ref 22), some (.int v1), some (.int v2), some (.int v3), some (.int v4), some (.int v5), some (.int v6), some (.long q28), none], [.long q59, .long (q48 + q28)], h, 0, 0) _
          refine am_steps ok_Mo_firstAble 2 (x' := (if (0 : Int32) ≤ (lg_cmp (q48 + q28) q59) then 115 else 112, [some (.ref 22), some (.int v1), some (.int v2), some (.int v3), some (.int v4), some (.int v5), some (.int v6), some (.long q28), none], [], h, 0, 0)) rfl (Nat.le_of_ble_eq_true rfl) (Nat.le_of_ble_eq_true rfl) ?_
          refine am_if (fun hc70 => ?_) (fun hc70 => ?_)
          · rw [if_pos hc70] at hd
            refine am_drop 7 ?_
            cases hd; exact K40 
          · rw [if_neg hc70] at hd
            refine am_steps ok_Mo_firstAble 2 (x' := (115, [some (.ref 22), some (.int v1), some (.int v2), some (.int v3), some (.int v4), some (.int 0), some (.int v6), some (.long q28), none], [], h, 0, 0)) rfl (Nat.le_of_ble_eq_true rfl) (Nat.le_of_ble_eq_true rfl) ?_
            refine am_drop 7 ?_
            cases hd; exact K40 
def l_Mo_firstAble_8 : Nat → Int32 → Int32 → mS → Option (Int32 × mS)
  | 0, _, _, _ => none
  | fu + 1, v1, v2, s => if ((s.1 32) : Int32) ≤ v2 then (some (v1, s)) else (if (0 : Int32) ≤ v1 then (some (v1, s)) else ((am_ix v2 250).bind fun j12 => ((d_Mo_places (s.2.2.1 55 j12) s).bind fun q15 => ((l_Mo_firstAble_40 100000 v1 v2 (s.2.2.1 55 j12) q15.1 1 0 q15.2).bind fun q71 => ((if (q71 : Int32) = 0 then ((d_Mo_touchTaken (s.2.2.1 55 j12) q15.2).bind fun q82 => (some (v1, q82))) else (some ((s.2.2.1 55 j12), q15.2))).bind fun (u74 : Int32 × mS) => (l_Mo_firstAble_8 fu u74.1 (v2 + 1) u74.2))))))
set_option maxHeartbeats 4000000 in
set_option maxRecDepth 100000 in
theorem L_Mo_firstAble_8 {Q : Option Value → am_H → Prop} (h0 : am_H) : ∀ (fu : Nat) (v1 : Int32) (v2 : Int32) (s : mS) (h : am_H), RM s h → mF h0 h → ∀ q : Int32 × mS, l_Mo_firstAble_8 fu v1 v2 s = some q → (∀ h' : am_H, RM q.2 h' → mF h0 h' → am_S am_Pr none 3 79 0 0 64 (142, [some (.ref 22), some (.int q.1), none, none, none, none, none, none, none], [], h', 0, 0) Q) → am_S am_Pr none 3 79 0 0 64 (8, [some (.ref 22), some (.int v1), some (.int v2), none, none, none, none, none, none], [], h, 0, 0) Q := by
  intro fu
  induction fu with
  | zero => intro v1 v2 s h hM f q hd; cases hd
  | succ fu ih =>
    intro v1 v2 s h hM f q hd kk
    unfold l_Mo_firstAble_8 at hd
    refine am_steps ok_Mo_firstAble 2 (x' := (10, [some (.ref 22), some (.int v1), some (.int v2), none, none, none, none, none, none], [.ref 22, .int v2], h, 0, 0)) rfl (Nat.le_of_ble_eq_true rfl) (Nat.le_of_ble_eq_true rfl) ?_
    refine mr_get ok_Mo_firstAble rfl hM (v := .int (s.1 32)) rfl (pc' := 13) rfl (Nat.le_of_ble_eq_true rfl) (Nat.le_of_ble_eq_true rfl) ?_
    refine am_steps ok_Mo_firstAble 1 (x' := (if ((s.1 32) : Int32) ≤ v2 then 142 else 16, [some (.ref 22), some (.int v1), some (.int v2), none, none, none, none, none, none], [], h, 0, 0)) rfl (Nat.le_of_ble_eq_true rfl) (Nat.le_of_ble_eq_true rfl) ?_
    refine am_if (fun hc10 => ?_) (fun hc10 => ?_)
    · rw [if_pos hc10] at hd
      refine am_drop 2 ?_
      cases hd; exact kk h hM f
    · rw [if_neg hc10] at hd
      refine am_steps ok_Mo_firstAble 2 (x' := (if (0 : Int32) ≤ v1 then 142 else 20, [some (.ref 22), some (.int v1), some (.int v2), none, none, none, none, none, none], [], h, 0, 0)) rfl (Nat.le_of_ble_eq_true rfl) (Nat.le_of_ble_eq_true rfl) ?_
      refine am_if (fun hc11 => ?_) (fun hc11 => ?_)
      · rw [if_pos hc11] at hd
        refine am_drop 2 ?_
        cases hd; exact kk h hM f
      · rw [if_neg hc11] at hd
        refine am_steps ok_Mo_firstAble 1 (x' := (21, [some (.ref 22), some (.int v1), some (.int v2), none, none, none, none, none, none], [.ref 22], h, 0, 0)) rfl (Nat.le_of_ble_eq_true rfl) (Nat.le_of_ble_eq_true rfl) ?_
        refine mr_get ok_Mo_firstAble rfl hM (v := .ref 55) rfl (pc' := 24) rfl (Nat.le_of_ble_eq_true rfl) (Nat.le_of_ble_eq_true rfl) ?_
        refine am_steps ok_Mo_firstAble 1 (x' := (25, [some (.ref 22), some (.int v1), some (.int v2), none, none, none, none, none, none], [.int v2, .ref 55], h, 0, 0)) rfl (Nat.le_of_ble_eq_true rfl) (Nat.le_of_ble_eq_true rfl) ?_
        obtain ⟨j12, hx13, hd14⟩ := Option.bind_eq_some_iff.mp hd; clear hd; have hd := hd14; clear hd14
        refine mr_iald ok_Mo_firstAble rfl hM (N := 250) (by decide) hx13 (pc' := 26) rfl (Nat.le_of_ble_eq_true rfl) (Nat.le_of_ble_eq_true rfl) ?_
        refine am_steps ok_Mo_firstAble 3 (x' := (29, [some (.ref 22), some (.int v1), some (.int v2), some (.int (s.2.2.1 55 j12)), none, none, none, none, none], [.int (s.2.2.1 55 j12), .ref 22], h, 0, 0)) rfl (Nat.le_of_ble_eq_true rfl) (Nat.le_of_ble_eq_true rfl) ?_
        obtain ⟨q15, hq16, hd17⟩ := Option.bind_eq_some_iff.mp hd; clear hd; have hd := hd17; clear hd17
        refine ar_cv ok_Mo_firstAble hk_Mo_places rfl rfl (As := [.int (s.2.2.1 55 j12)]) (ad := 22) (rest := []) rfl rfl hM.1 (Nat.le_of_ble_eq_true rfl) (k_Mo_places (s.2.2.1 55 j12) s h hM q15 hq16) (Nat.le_of_ble_eq_true rfl) (Nat.le_of_ble_eq_true rfl) (Nat.le_of_ble_eq_true rfl) (Nat.le_of_ble_eq_true rfl) (pc' := 32) rfl (fun r18 h20 z19 => ?_)
        obtain ⟨rfl, hM21, g23⟩ := z19
        have f22 := mF.tr f g23
        show am_S _ _ _ _ _ _ _ (32, [some (.ref 22), some (.int v1), some (.int v2), some (.int (s.2.2.1 55 j12)), none, none, none, none, none], [.int q15.1], h20, 0, 0) _
        refine am_steps ok_Mo_firstAble 5 (x' := (40, [some (.ref 22), some (.int v1), some (.int v2), some (.int (s.2.2.1 55 j12)), some (.int q15.1), some (.int 1), some (.int 0), none, none], [], h20, 0, 0)) rfl (Nat.le_of_ble_eq_true rfl) (Nat.le_of_ble_eq_true rfl) ?_
        obtain ⟨q71, hq72, hd73⟩ := Option.bind_eq_some_iff.mp hd; clear hd; have hd := hd73; clear hd73
        refine L_Mo_firstAble_40 q15.2 h20 hM21 100000 v1 v2 (s.2.2.1 55 j12) q15.1 1 0 q71 hq72 ?_
        show am_S _ _ _ _ _ _ _ (121, [some (.ref 22), some (.int v1), some (.int v2), some (.int (s.2.2.1 55 j12)), some (.int q15.1), some (.int q71), none, none, none], [], h20, 0, 0) _
        refine am_steps ok_Mo_firstAble 2 (x' := (if (q71 : Int32) = 0 then 131 else 126, [some (.ref 22), some (.int v1), some (.int v2), some (.int (s.2.2.1 55 j12)), some (.int q15.1), some (.int q71), none, none, none], [], h20, 0, 0)) rfl (Nat.le_of_ble_eq_true rfl) (Nat.le_of_ble_eq_true rfl) ?_
        obtain ⟨u74, hA76, hB77⟩ := Option.bind_eq_some_iff.mp hd; clear hd
        have K75 : ∀ h' : am_H, RM u74.2 h' → mF h0 h' → am_S am_Pr none 3 79 0 0 64 (136, [some (.ref 22), some (.int u74.1), some (.int v2), none, none, none, none, none, none], [], h', 0, 0) Q := by
          have hd := hB77
          intro h78 hM79 f80
          refine am_steps ok_Mo_firstAble 2 (x' := (8, [some (.ref 22), some (.int u74.1), some (.int (v2 + 1)), none, none, none, none, none, none], [], h78, 0, 0)) rfl (Nat.le_of_ble_eq_true rfl) (Nat.le_of_ble_eq_true rfl) ?_
          exact ih u74.1 (v2 + 1) u74.2 h78 hM79 f80 q hd kk
        clear hB77; have hd := hA76; clear hA76
        refine am_if (fun hc81 => ?_) (fun hc81 => ?_)
        · rw [if_pos hc81] at hd
          refine am_steps ok_Mo_firstAble 2 (x' := (133, [some (.ref 22), some (.int v1), some (.int v2), some (.int (s.2.2.1 55 j12)), some (.int q15.1), some (.int q71), none, none, none], [.int (s.2.2.1 55 j12), .ref 22], h20, 0, 0)) rfl (Nat.le_of_ble_eq_true rfl) (Nat.le_of_ble_eq_true rfl) ?_
          obtain ⟨q82, hq83, hd84⟩ := Option.bind_eq_some_iff.mp hd; clear hd; have hd := hd84; clear hd84
          refine ar_cv ok_Mo_firstAble hk_Mo_touchTaken rfl rfl (As := [.int (s.2.2.1 55 j12)]) (ad := 22) (rest := []) rfl rfl hM21.1 (Nat.le_of_ble_eq_true rfl) (k_Mo_touchTaken (s.2.2.1 55 j12) q15.2 h20 hM21 q82 hq83) (Nat.le_of_ble_eq_true rfl) (Nat.le_of_ble_eq_true rfl) (Nat.le_of_ble_eq_true rfl) (Nat.le_of_ble_eq_true rfl) (pc' := 136) rfl (fun r85 h87 z86 => ?_)
          obtain ⟨rfl, hM88, g90⟩ := z86
          have f89 := mF.tr f22 g90
          show am_S _ _ _ _ _ _ _ (136, [some (.ref 22), some (.int v1), some (.int v2), some (.int (s.2.2.1 55 j12)), some (.int q15.1), some (.int q71), none, none, none], [], h87, 0, 0) _
          refine am_drop 3 ?_
          refine am_drop 4 ?_
          refine am_drop 5 ?_
          cases hd; exact K75 h87 hM88 f89
        · rw [if_neg hc81] at hd
          refine am_steps ok_Mo_firstAble 3 (x' := (136, [some (.ref 22), some (.int (s.2.2.1 55 j12)), some (.int v2), some (.int (s.2.2.1 55 j12)), some (.int q15.1), some (.int q71), none, none, none], [], h20, 0, 0)) rfl (Nat.le_of_ble_eq_true rfl) (Nat.le_of_ble_eq_true rfl) ?_
          refine am_drop 3 ?_
          refine am_drop 4 ?_
          refine am_drop 5 ?_
          cases hd; exact K75 h20 hM21 f22
def d_Mo_firstAble  (s : mS) : Option (Int32 × mS) := (d_Mo_sort  s).bind fun q1 => ((l_Mo_firstAble_8 100000 (-1) 0 q1).bind fun q91 => ((d_Mo_untouch  q91.2).bind fun q97 => (some (q91.1, q97))))
set_option maxHeartbeats 4000000 in
set_option maxRecDepth 100000 in
theorem k_Mo_firstAble  (s : mS) (h0 : am_H) (hM : RM s h0) (q : Int32 × mS) (hd : d_Mo_firstAble  s = some q) : am_Me am_Pr none 3 79 0 0 64 [.ref 22] h0 (mQr (.int q.1) q.2 h0) := by
  refine am_enter (d := hd_Mo_firstAble) rfl (by decide +kernel) (Nat.le_of_ble_eq_true rfl) ?_
  show am_S _ _ _ _ _ _ _ (0, [some (.ref 22), none, none, none, none, none, none, none, none], [], h0, 0, 0) _
  unfold d_Mo_firstAble at hd
  refine am_steps ok_Mo_firstAble 1 (x' := (1, [some (.ref 22), none, none, none, none, none, none, none, none], [.ref 22], h0, 0, 0)) rfl (Nat.le_of_ble_eq_true rfl) (Nat.le_of_ble_eq_true rfl) ?_
  obtain ⟨q1, hq2, hd3⟩ := Option.bind_eq_some_iff.mp hd; clear hd; have hd := hd3; clear hd3
  refine ar_cv ok_Mo_firstAble hk_Mo_sort rfl rfl (As := []) (ad := 22) (rest := []) rfl rfl hM.1 (Nat.le_of_ble_eq_true rfl) (k_Mo_sort  s h0 hM q1 hq2) (Nat.le_of_ble_eq_true rfl) (Nat.le_of_ble_eq_true rfl) (Nat.le_of_ble_eq_true rfl) (Nat.le_of_ble_eq_true rfl) (pc' := 4) rfl (fun r4 h6 z5 => ?_)
  obtain ⟨rfl, hM7, g9⟩ := z5
  have f8 := mF.tr (mF.rf) g9
  show am_S _ _ _ _ _ _ _ (4, [some (.ref 22), none, none, none, none, none, none, none, none], [], h6, 0, 0) _
  refine am_steps ok_Mo_firstAble 4 (x' := (8, [some (.ref 22), some (.int (-1)), some (.int 0), none, none, none, none, none, none], [], h6, 0, 0)) rfl (Nat.le_of_ble_eq_true rfl) (Nat.le_of_ble_eq_true rfl) ?_
  obtain ⟨q91, hq92, hd93⟩ := Option.bind_eq_some_iff.mp hd; clear hd; have hd := hd93; clear hd93
  refine L_Mo_firstAble_8 h0 100000 (-1) 0 q1 h6 hM7 f8 q91 hq92 (fun h94 hM95 f96 => ?_)
  show am_S _ _ _ _ _ _ _ (142, [some (.ref 22), some (.int q91.1), none, none, none, none, none, none, none], [], h94, 0, 0) _
  refine am_steps ok_Mo_firstAble 1 (x' := (143, [some (.ref 22), some (.int q91.1), none, none, none, none, none, none, none], [.ref 22], h94, 0, 0)) rfl (Nat.le_of_ble_eq_true rfl) (Nat.le_of_ble_eq_true rfl) ?_
  obtain ⟨q97, hq98, hd99⟩ := Option.bind_eq_some_iff.mp hd; clear hd; have hd := hd99; clear hd99
  refine ar_cv ok_Mo_firstAble hk_Mo_untouch rfl rfl (As := []) (ad := 22) (rest := []) rfl rfl hM95.1 (Nat.le_of_ble_eq_true rfl) (k_Mo_untouch  q91.2 h94 hM95 q97 hq98) (Nat.le_of_ble_eq_true rfl) (Nat.le_of_ble_eq_true rfl) (Nat.le_of_ble_eq_true rfl) (Nat.le_of_ble_eq_true rfl) (pc' := 146) rfl (fun r100 h102 z101 => ?_)
  obtain ⟨rfl, hM103, g105⟩ := z101
  have f104 := mF.tr f96 g105
  show am_S _ _ _ _ _ _ _ (146, [some (.ref 22), some (.int q91.1), none, none, none, none, none, none, none], [], h102, 0, 0) _
  refine am_steps ok_Mo_firstAble 1 (x' := (147, [some (.ref 22), some (.int q91.1), none, none, none, none, none, none, none], [.int q91.1], h102, 0, 0)) rfl (Nat.le_of_ble_eq_true rfl) (Nat.le_of_ble_eq_true rfl) ?_
  cases hd; exact am_ret ok_Mo_firstAble rfl (Nat.le_of_ble_eq_true rfl) (Nat.le_of_ble_eq_true rfl) ⟨rfl, hM103, f104⟩
def d_Mo_move (a : Int32) (b : Int64) (s : mS) : Option (mS) := (am_ix a 16384).bind fun j1 => ((if (0 : Int32) ≤ (lg_cmp b 0) then (some (mB (mB s 31 j1 ((s.2.2.2 31 j1) + b)) 35 j1 ((s.2.2.2 35 j1) + b))) else (some (mB (mB s 31 j1 ((s.2.2.2 31 j1) + b)) 34 j1 ((s.2.2.2 34 j1) - b)))).bind fun (u8 : mS) => ((if ¬ ((lg_cmp b 0) : Int32) = 0 then (some 1) else (some 0)).bind fun (u15 : Int32) => (some (mA u8 36 j1 ((u8.2.2.1 36 j1) + u15)))))
set_option maxHeartbeats 4000000 in
set_option maxRecDepth 100000 in
theorem k_Mo_move (a : Int32) (b : Int64) (s : mS) (h0 : am_H) (hM : RM s h0) (q : mS) (hd : d_Mo_move a b s = some q) : am_Me am_Pr none 0 0 0 0 65 [.ref 22, .int a, .long b] h0 (mQv q h0) := by
  refine am_enter (d := hd_Mo_move) rfl (by decide +kernel) (Nat.le_of_ble_eq_true rfl) ?_
  show am_S _ _ _ _ _ _ _ (0, [some (.ref 22), some (.int a), some (.long b), none], [], h0, 0, 0) _
  unfold d_Mo_move at hd
  refine am_steps ok_Mo_move 1 (x' := (1, [some (.ref 22), some (.int a), some (.long b), none], [.ref 22], h0, 0, 0)) rfl (Nat.le_of_ble_eq_true rfl) (Nat.le_of_ble_eq_true rfl) ?_
  refine mr_get ok_Mo_move rfl hM (v := .ref 31) rfl (pc' := 4) rfl (Nat.le_of_ble_eq_true rfl) (Nat.le_of_ble_eq_true rfl) ?_
  refine am_steps ok_Mo_move 2 (x' := (6, [some (.ref 22), some (.int a), some (.long b), none], [.int a, .ref 31, .int a, .ref 31], h0, 0, 0)) rfl (Nat.le_of_ble_eq_true rfl) (Nat.le_of_ble_eq_true rfl) ?_
  obtain ⟨j1, hx2, hd3⟩ := Option.bind_eq_some_iff.mp hd; clear hd; have hd := hd3; clear hd3
  refine mr_lald ok_Mo_move rfl hM (N := 16384) (by decide) hx2 (pc' := 7) rfl (Nat.le_of_ble_eq_true rfl) (Nat.le_of_ble_eq_true rfl) ?_
  refine am_steps ok_Mo_move 2 (x' := (9, [some (.ref 22), some (.int a), some (.long b), none], [.long ((s.2.2.2 31 j1) + b), .int a, .ref 31], h0, 0, 0)) rfl (Nat.le_of_ble_eq_true rfl) (Nat.le_of_ble_eq_true rfl) ?_
  refine mr_last ok_Mo_move rfl hM (N := 16384) (by decide) hx2 (pc' := 10) rfl (Nat.le_of_ble_eq_true rfl) (Nat.le_of_ble_eq_true rfl) (fun h4 hM5 g7 => ?_)
  have f6 := mF.tr (mF.rf) g7
  refine am_steps ok_Mo_move 4 (x' := (if (0 : Int32) ≤ (lg_cmp b 0) then 29 else 16, [some (.ref 22), some (.int a), some (.long b), none], [], h4, 0, 0)) rfl (Nat.le_of_ble_eq_true rfl) (Nat.le_of_ble_eq_true rfl) ?_
  obtain ⟨u8, hA10, hB11⟩ := Option.bind_eq_some_iff.mp hd; clear hd
  have K9 : ∀ h' : am_H, RM u8 h' → mF h0 h' → am_S am_Pr none 0 0 0 0 65 (39, [some (.ref 22), some (.int a), some (.long b), none], [], h', 0, 0) (mQv q h0) := by
    have hd := hB11
    intro h12 hM13 f14
    refine am_steps ok_Mo_move 1 (x' := (40, [some (.ref 22), some (.int a), some (.long b), none], [.ref 22], h12, 0, 0)) rfl (Nat.le_of_ble_eq_true rfl) (Nat.le_of_ble_eq_true rfl) ?_
    refine mr_get ok_Mo_move rfl hM13 (v := .ref 36) rfl (pc' := 43) rfl (Nat.le_of_ble_eq_true rfl) (Nat.le_of_ble_eq_true rfl) ?_
    refine am_steps ok_Mo_move 2 (x' := (45, [some (.ref 22), some (.int a), some (.long b), none], [.int a, .ref 36, .int a, .ref 36], h12, 0, 0)) rfl (Nat.le_of_ble_eq_true rfl) (Nat.le_of_ble_eq_true rfl) ?_
    refine mr_iald ok_Mo_move rfl hM13 (N := 16384) (by decide) hx2 (pc' := 46) rfl (Nat.le_of_ble_eq_true rfl) (Nat.le_of_ble_eq_true rfl) ?_
    refine am_steps ok_Mo_move 4 (x' := (if ¬ ((lg_cmp b 0) : Int32) = 0 then 56 else 52, [some (.ref 22), some (.int a), some (.long b), none], [.int (u8.2.2.1 36 j1), .int a, .ref 36], h12, 0, 0)) rfl (Nat.le_of_ble_eq_true rfl) (Nat.le_of_ble_eq_true rfl) ?_
    obtain ⟨u15, hA17, hB18⟩ := Option.bind_eq_some_iff.mp hd; clear hd
    have K16 : am_S am_Pr none 0 0 0 0 65 (57, [none, none, none, none], [.int u15, .int (u8.2.2.1 36 j1), .int a, .ref 36], h12, 0, 0) (mQv q h0) := by
      have hd := hB18
      refine am_steps ok_Mo_move 1 (x' := (58, [none, none, none, none], [.int ((u8.2.2.1 36 j1) + u15), .int a, .ref 36], h12, 0, 0)) rfl (Nat.le_of_ble_eq_true rfl) (Nat.le_of_ble_eq_true rfl) ?_
      refine mr_iast ok_Mo_move rfl hM13 (N := 16384) (by decide) hx2 (pc' := 59) rfl (Nat.le_of_ble_eq_true rfl) (Nat.le_of_ble_eq_true rfl) (fun h19 hM20 g22 => ?_)
      have f21 := mF.tr f14 g22
      cases hd; exact am_ret ok_Mo_move rfl (Nat.le_of_ble_eq_true rfl) (Nat.le_of_ble_eq_true rfl) ⟨rfl, hM20, f21⟩
    clear hB18; have hd := hA17; clear hA17
    refine am_if (fun hc23 => ?_) (fun hc23 => ?_)
    · rw [if_pos hc23] at hd
      refine am_steps ok_Mo_move 1 (x' := (57, [some (.ref 22), some (.int a), some (.long b), none], [.int 1, .int (u8.2.2.1 36 j1), .int a, .ref 36], h12, 0, 0)) rfl (Nat.le_of_ble_eq_true rfl) (Nat.le_of_ble_eq_true rfl) ?_
      refine am_drop 0 ?_
      refine am_drop 1 ?_
      refine am_drop 2 ?_
      cases hd; exact K16 
    · rw [if_neg hc23] at hd
      refine am_steps ok_Mo_move 2 (x' := (57, [some (.ref 22), some (.int a), some (.long b), none], [.int 0, .int (u8.2.2.1 36 j1), .int a, .ref 36], h12, 0, 0)) rfl (Nat.le_of_ble_eq_true rfl) (Nat.le_of_ble_eq_true rfl) ?_
      refine am_drop 0 ?_
      refine am_drop 1 ?_
      refine am_drop 2 ?_
      cases hd; exact K16 
  clear hB11; have hd := hA10; clear hA10
  refine am_if (fun hc24 => ?_) (fun hc24 => ?_)
  · rw [if_pos hc24] at hd
    refine am_steps ok_Mo_move 1 (x' := (30, [some (.ref 22), some (.int a), some (.long b), none], [.ref 22], h4, 0, 0)) rfl (Nat.le_of_ble_eq_true rfl) (Nat.le_of_ble_eq_true rfl) ?_
    refine mr_get ok_Mo_move rfl hM5 (v := .ref 35) rfl (pc' := 33) rfl (Nat.le_of_ble_eq_true rfl) (Nat.le_of_ble_eq_true rfl) ?_
    refine am_steps ok_Mo_move 2 (x' := (35, [some (.ref 22), some (.int a), some (.long b), none], [.int a, .ref 35, .int a, .ref 35], h4, 0, 0)) rfl (Nat.le_of_ble_eq_true rfl) (Nat.le_of_ble_eq_true rfl) ?_
    refine mr_lald ok_Mo_move rfl hM5 (N := 16384) (by decide) hx2 (pc' := 36) rfl (Nat.le_of_ble_eq_true rfl) (Nat.le_of_ble_eq_true rfl) ?_
    show am_S _ _ _ _ _ _ _ (36, [some (.ref 22), some (.int a), some (.long b), none], [.long (s.2.2.2 35 j1), .int a, .ref 35], h4, 0, 0) _
    refine am_steps ok_Mo_move 2 (x' := (38, [some (.ref 22), some (.int a), some (.long b), none], [.long ((s.2.2.2 35 j1) + b), .int a, .ref 35], h4, 0, 0)) rfl (Nat.le_of_ble_eq_true rfl) (Nat.le_of_ble_eq_true rfl) ?_
    refine mr_last ok_Mo_move rfl hM5 (N := 16384) (by decide) hx2 (pc' := 39) rfl (Nat.le_of_ble_eq_true rfl) (Nat.le_of_ble_eq_true rfl) (fun h25 hM26 g28 => ?_)
    have f27 := mF.tr f6 g28
    cases hd; exact K9 h25 hM26 f27
  · rw [if_neg hc24] at hd
    refine am_steps ok_Mo_move 1 (x' := (17, [some (.ref 22), some (.int a), some (.long b), none], [.ref 22], h4, 0, 0)) rfl (Nat.le_of_ble_eq_true rfl) (Nat.le_of_ble_eq_true rfl) ?_
    refine mr_get ok_Mo_move rfl hM5 (v := .ref 34) rfl (pc' := 20) rfl (Nat.le_of_ble_eq_true rfl) (Nat.le_of_ble_eq_true rfl) ?_
    refine am_steps ok_Mo_move 2 (x' := (22, [some (.ref 22), some (.int a), some (.long b), none], [.int a, .ref 34, .int a, .ref 34], h4, 0, 0)) rfl (Nat.le_of_ble_eq_true rfl) (Nat.le_of_ble_eq_true rfl) ?_
    refine mr_lald ok_Mo_move rfl hM5 (N := 16384) (by decide) hx2 (pc' := 23) rfl (Nat.le_of_ble_eq_true rfl) (Nat.le_of_ble_eq_true rfl) ?_
    show am_S _ _ _ _ _ _ _ (23, [some (.ref 22), some (.int a), some (.long b), none], [.long (s.2.2.2 34 j1), .int a, .ref 34], h4, 0, 0) _
    refine am_steps ok_Mo_move 2 (x' := (25, [some (.ref 22), some (.int a), some (.long b), none], [.long ((s.2.2.2 34 j1) - b), .int a, .ref 34], h4, 0, 0)) rfl (Nat.le_of_ble_eq_true rfl) (Nat.le_of_ble_eq_true rfl) ?_
    refine mr_last ok_Mo_move rfl hM5 (N := 16384) (by decide) hx2 (pc' := 26) rfl (Nat.le_of_ble_eq_true rfl) (Nat.le_of_ble_eq_true rfl) (fun h29 hM30 g32 => ?_)
    have f31 := mF.tr f6 g32
    refine am_steps ok_Mo_move 1 (x' := (39, [some (.ref 22), some (.int a), some (.long b), none], [], h29, 0, 0)) rfl (Nat.le_of_ble_eq_true rfl) (Nat.le_of_ble_eq_true rfl) ?_
    cases hd; exact K9 h29 hM30 f31
