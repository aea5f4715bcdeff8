/-! Methods of the reference as functions of its state. -/
def l_Mo_credit_5 : Nat → Int32 → Int64 → Int32 → mS → Option (Int64)
  | 0, _, _, _, _ => none
  | fu + 1, v1, v2, v4, s => if ((s.1 15) : Int32) ≤ v4 then (some v2) else ((am_ix v4 64).bind fun j2 => ((if ¬ ((s.2.2.1 28 j2) : Int32) = 0 then (some v2) else ((am_ix ((64 * v1) + v4) 16384).bind fun j15 => ((d_Mo_worth (s.2.2.2 32 j15) (s.2.2.2 29 j2) (s.2.2.1 30 j2) s).bind fun q18 => (some (v2 + q18))))).bind fun (u5 : Int64) => ((if ((lg_cmp u5 (Int64.ofNat 4000000000000000000)) : Int32) ≤ 0 then (some u5) else (some (Int64.ofNat 4000000000000000001))).bind fun (u9 : Int64) => (l_Mo_credit_5 fu v1 u9 (v4 + 1) s))))
set_option maxHeartbeats 4000000 in
set_option maxRecDepth 100000 in
theorem L_Mo_credit_5 {Q : Option Value → am_H → Prop} (s : mS) (h : am_H) (hM : RM s h) : ∀ (fu : Nat) (v1 : Int32) (v2 : Int64) (v4 : Int32) (q : Int64), l_Mo_credit_5 fu v1 v2 v4 s = some q → am_S am_Pr none 1 33 0 0 50 (79, [some (.ref 22), some (.int v1), some (.long q), none, none], [], h, 0, 0) Q → am_S am_Pr none 1 33 0 0 50 (5, [some (.ref 22), some (.int v1), some (.long v2), none, some (.int v4)], [], h, 0, 0) Q := by
  intro fu
  induction fu with
  | zero => intro v1 v2 v4 q hd; cases hd
  | succ fu ih =>
    intro v1 v2 v4 q hd kk
    unfold l_Mo_credit_5 at hd
    refine am_steps ok_Mo_credit 2 (x' := (8, [some (.ref 22), some (.int v1), some (.long v2), none, some (.int v4)], [.ref 22, .int v4], h, 0, 0)) rfl (Nat.le_of_ble_eq_true rfl) (Nat.le_of_ble_eq_true rfl) ?_
    refine mr_get ok_Mo_credit rfl hM (v := .int (s.1 15)) rfl (pc' := 11) rfl (Nat.le_of_ble_eq_true rfl) (Nat.le_of_ble_eq_true rfl) ?_
    refine am_steps ok_Mo_credit 1 (x' := (if ((s.1 15) : Int32) ≤ v4 then 79 else 14, [some (.ref 22), some (.int v1), some (.long v2), none, some (.int v4)], [], h, 0, 0)) rfl (Nat.le_of_ble_eq_true rfl) (Nat.le_of_ble_eq_true rfl) ?_
    refine am_if (fun hc1 => ?_) (fun hc1 => ?_)
    · rw [if_pos hc1] at hd
      refine am_drop 4 ?_
      cases hd; exact kk
    · rw [if_neg hc1] at hd
      refine am_steps ok_Mo_credit 1 (x' := (15, [some (.ref 22), some (.int v1), some (.long v2), none, some (.int v4)], [.ref 22], h, 0, 0)) rfl (Nat.le_of_ble_eq_true rfl) (Nat.le_of_ble_eq_true rfl) ?_
      refine mr_get ok_Mo_credit rfl hM (v := .ref 28) rfl (pc' := 18) rfl (Nat.le_of_ble_eq_true rfl) (Nat.le_of_ble_eq_true rfl) ?_
      refine am_steps ok_Mo_credit 1 (x' := (20, [some (.ref 22), some (.int v1), some (.long v2), none, some (.int v4)], [.int v4, .ref 28], h, 0, 0)) rfl (Nat.le_of_ble_eq_true rfl) (Nat.le_of_ble_eq_true rfl) ?_
      obtain ⟨j2, hx3, hd4⟩ := Option.bind_eq_some_iff.mp hd; clear hd; have hd := hd4; clear hd4
      refine mr_bald ok_Mo_credit rfl hM (N := 64) (by decide) (Or.inr rfl) hx3 (pc' := 21) rfl (Nat.le_of_ble_eq_true rfl) (Nat.le_of_ble_eq_true rfl) ?_
      refine am_steps ok_Mo_credit 1 (x' := (if ¬ ((s.2.2.1 28 j2) : Int32) = 0 then 57 else 24, [some (.ref 22), some (.int v1), some (.long v2), none, some (.int v4)], [], h, 0, 0)) rfl (Nat.le_of_ble_eq_true rfl) (Nat.le_of_ble_eq_true rfl) ?_
      obtain ⟨u5, hA7, hB8⟩ := Option.bind_eq_some_iff.mp hd; clear hd
      have K6 : am_S am_Pr none 1 33 0 0 50 (57, [some (.ref 22), some (.int v1), some (.long u5), none, some (.int v4)], [], h, 0, 0) Q := by
        have hd := hB8
        refine am_steps ok_Mo_credit 4 (x' := (if ((lg_cmp u5 (Int64.ofNat 4000000000000000000)) : Int32) ≤ 0 then 71 else 65, [some (.ref 22), some (.int v1), some (.long u5), none, some (.int v4)], [], h, 0, 0)) rfl (Nat.le_of_ble_eq_true rfl) (Nat.le_of_ble_eq_true rfl) ?_
        obtain ⟨u9, hA11, hB12⟩ := Option.bind_eq_some_iff.mp hd; clear hd
        have K10 : am_S am_Pr none 1 33 0 0 50 (72, [some (.ref 22), some (.int v1), none, none, some (.int v4)], [.long u9], h, 0, 0) Q := by
          have hd := hB12
          refine am_steps ok_Mo_credit 3 (x' := (5, [some (.ref 22), some (.int v1), some (.long u9), none, some (.int (v4 + 1))], [], h, 0, 0)) rfl (Nat.le_of_ble_eq_true rfl) (Nat.le_of_ble_eq_true rfl) ?_
          exact ih v1 u9 (v4 + 1) q hd kk
        clear hB12; have hd := hA11; clear hA11
        refine am_if (fun hc13 => ?_) (fun hc13 => ?_)
        · rw [if_pos hc13] at hd
          refine am_steps ok_Mo_credit 1 (x' := (72, [some (.ref 22), some (.int v1), some (.long u5), none, some (.int v4)], [.long u5], h, 0, 0)) rfl (Nat.le_of_ble_eq_true rfl) (Nat.le_of_ble_eq_true rfl) ?_
          refine am_drop 2 ?_
          cases hd; exact K10 
        · rw [if_neg hc13] at hd
          refine am_steps ok_Mo_credit 2 (x' := (72, [some (.ref 22), some (.int v1), some (.long u5), none, some (.int v4)], [.long (Int64.ofNat 4000000000000000001)], h, 0, 0)) rfl (Nat.le_of_ble_eq_true rfl) (Nat.le_of_ble_eq_true rfl) ?_
          refine am_drop 2 ?_
          cases hd; exact K10 
      clear hB8; have hd := hA7; clear hA7
      refine am_if (fun hc14 => ?_) (fun hc14 => ?_)
      · rw [if_pos hc14] at hd
        cases hd; exact K6 
      · rw [if_neg hc14] at hd
        refine am_steps ok_Mo_credit 3 (x' := (27, [some (.ref 22), some (.int v1), some (.long v2), none, some (.int v4)], [.ref 22, .ref 22, .long v2], h, 0, 0)) rfl (Nat.le_of_ble_eq_true rfl) (Nat.le_of_ble_eq_true rfl) ?_
        refine mr_get ok_Mo_credit rfl hM (v := .ref 32) rfl (pc' := 30) rfl (Nat.le_of_ble_eq_true rfl) (Nat.le_of_ble_eq_true rfl) ?_
        refine am_steps ok_Mo_credit 5 (x' := (37, [some (.ref 22), some (.int v1), some (.long v2), none, some (.int v4)], [.int ((64 * v1) + v4), .ref 32, .ref 22, .long v2], h, 0, 0)) rfl (Nat.le_of_ble_eq_true rfl) (Nat.le_of_ble_eq_true rfl) ?_
        obtain ⟨j15, hx16, hd17⟩ := Option.bind_eq_some_iff.mp hd; clear hd; have hd := hd17; clear hd17
        refine mr_lald ok_Mo_credit rfl hM (N := 16384) (by decide) hx16 (pc' := 38) rfl (Nat.le_of_ble_eq_true rfl) (Nat.le_of_ble_eq_true rfl) ?_
        refine am_steps ok_Mo_credit 1 (x' := (39, [some (.ref 22), some (.int v1), some (.long v2), none, some (.int v4)], [.ref 22, .long (s.2.2.2 32 j15), .ref 22, .long v2], h, 0, 0)) rfl (Nat.le_of_ble_eq_true rfl) (Nat.le_of_ble_eq_true rfl) ?_
        refine mr_get ok_Mo_credit rfl hM (v := .ref 29) rfl (pc' := 42) rfl (Nat.le_of_ble_eq_true rfl) (Nat.le_of_ble_eq_true rfl) ?_
        refine am_steps ok_Mo_credit 1 (x' := (44, [some (.ref 22), some (.int v1), some (.long v2), none, some (.int v4)], [.int v4, .ref 29, .long (s.2.2.2 32 j15), .ref 22, .long v2], h, 0, 0)) rfl (Nat.le_of_ble_eq_true rfl) (Nat.le_of_ble_eq_true rfl) ?_
        refine mr_lald ok_Mo_credit rfl hM (N := 64) (by decide) hx3 (pc' := 45) rfl (Nat.le_of_ble_eq_true rfl) (Nat.le_of_ble_eq_true rfl) ?_
        refine am_steps ok_Mo_credit 1 (x' := (46, [some (.ref 22), some (.int v1), some (.long v2), none, some (.int v4)], [.ref 22, .long (s.2.2.2 29 j2), .long (s.2.2.2 32 j15), .ref 22, .long v2], h, 0, 0)) rfl (Nat.le_of_ble_eq_true rfl) (Nat.le_of_ble_eq_true rfl) ?_
        refine mr_get ok_Mo_credit rfl hM (v := .ref 30) rfl (pc' := 49) rfl (Nat.le_of_ble_eq_true rfl) (Nat.le_of_ble_eq_true rfl) ?_
        refine am_steps ok_Mo_credit 1 (x' := (51, [some (.ref 22), some (.int v1), some (.long v2), none, some (.int v4)], [.int v4, .ref 30, .long (s.2.2.2 29 j2), .long (s.2.2.2 32 j15), .ref 22, .long v2], h, 0, 0)) rfl (Nat.le_of_ble_eq_true rfl) (Nat.le_of_ble_eq_true rfl) ?_
        refine mr_iald ok_Mo_credit rfl hM (N := 64) (by decide) hx3 (pc' := 52) rfl (Nat.le_of_ble_eq_true rfl) (Nat.le_of_ble_eq_true rfl) ?_
        obtain ⟨q18, hq19, hd20⟩ := Option.bind_eq_some_iff.mp hd; clear hd; have hd := hd20; clear hd20
        refine ar_cv ok_Mo_credit hk_Mo_worth rfl rfl (As := [.long (s.2.2.2 32 j15), .long (s.2.2.2 29 j2), .int (s.2.2.1 30 j2)]) (ad := 22) (rest := [.long v2]) rfl rfl hM.1 (Nat.le_of_ble_eq_true rfl) (k_Mo_worth (s.2.2.2 32 j15) (s.2.2.2 29 j2) (s.2.2.1 30 j2) s h hM q18 hq19) (Nat.le_of_ble_eq_true rfl) (Nat.le_of_ble_eq_true rfl) (Nat.le_of_ble_eq_true rfl) (Nat.le_of_ble_eq_true rfl) (pc' := 55) rfl (fun r21 h23 z22 => ?_)
        obtain ⟨z27, z28⟩ := z22; subst z27; rw [z28]
        show am_S _ _ _ _ _ _ _ (55, [some (.ref 22), some (.int v1), some (.long v2), none, some (.int v4)], [.long q18, .long v2], h, 0, 0) _
        refine am_steps ok_Mo_credit 2 (x' := (57, [some (.ref 22), some (.int v1), some (.long (v2 + q18)), none, some (.int v4)], [], h, 0, 0)) rfl (Nat.le_of_ble_eq_true rfl) (Nat.le_of_ble_eq_true rfl) ?_
        cases hd; exact K6 
def d_Mo_credit (a : Int32) (s : mS) : Option (Int64) := (l_Mo_credit_5 100000 a 0 0 s).bind fun q29 => (some q29)
set_option maxHeartbeats 4000000 in
set_option maxRecDepth 100000 in
theorem k_Mo_credit (a : Int32) (s : mS) (h0 : am_H) (hM : RM s h0) (q : Int64) (hd : d_Mo_credit a s = some q) : am_Me am_Pr none 1 33 0 0 50 [.ref 22, .int a] h0 (am_is (some (.long q)) h0) := by
  refine am_enter (d := hd_Mo_credit) rfl (by decide +kernel) (Nat.le_of_ble_eq_true rfl) ?_
  show am_S _ _ _ _ _ _ _ (0, [some (.ref 22), some (.int a), none, none, none], [], h0, 0, 0) _
  unfold d_Mo_credit at hd
  refine am_steps ok_Mo_credit 4 (x' := (5, [some (.ref 22), some (.int a), some (.long 0), none, some (.int 0)], [], h0, 0, 0)) rfl (Nat.le_of_ble_eq_true rfl) (Nat.le_of_ble_eq_true rfl) ?_
  obtain ⟨q29, hq30, hd31⟩ := Option.bind_eq_some_iff.mp hd; clear hd; have hd := hd31; clear hd31
  refine L_Mo_credit_5 s h0 hM 100000 a 0 0 q29 hq30 ?_
  show am_S _ _ _ _ _ _ _ (79, [some (.ref 22), some (.int a), some (.long q29), none, none], [], h0, 0, 0) _
  refine am_steps ok_Mo_credit 1 (x' := (80, [some (.ref 22), some (.int a), some (.long q29), none, none], [.long q29], h0, 0, 0)) rfl (Nat.le_of_ble_eq_true rfl) (Nat.le_of_ble_eq_true rfl) ?_
  cases hd; exact am_ret ok_Mo_credit rfl (Nat.le_of_ble_eq_true rfl) (Nat.le_of_ble_eq_true rfl) ⟨rfl, rfl⟩
def d_Mo_isBelow (a : Int32) (s : mS) : Option (Int32) := if ((s.1 16) : Int32) < 0 then (some 0) else ((am_ix ((64 * a) + (s.1 16)) 16384).bind fun j2 => ((d_Mo_credit a s).bind fun q5 => (if (0 : Int32) ≤ (lg_cmp (s.2.2.2 31 j2) (-q5)) then (some 0) else (some 1))))
set_option maxHeartbeats 4000000 in
set_option maxRecDepth 100000 in
theorem k_Mo_isBelow (a : Int32) (s : mS) (h0 : am_H) (hM : RM s h0) (q : Int32) (hd : d_Mo_isBelow a s = some q) : am_Me am_Pr none 2 57 0 0 43 [.ref 22, .int a] h0 (am_is (some (.int q)) h0) := by
  refine am_enter (d := hd_Mo_isBelow) rfl (by decide +kernel) (Nat.le_of_ble_eq_true rfl) ?_
  show am_S _ _ _ _ _ _ _ (0, [some (.ref 22), some (.int a)], [], h0, 0, 0) _
  unfold d_Mo_isBelow at hd
  refine am_steps ok_Mo_isBelow 1 (x' := (1, [some (.ref 22), some (.int a)], [.ref 22], h0, 0, 0)) rfl (Nat.le_of_ble_eq_true rfl) (Nat.le_of_ble_eq_true rfl) ?_
  refine mr_get ok_Mo_isBelow rfl hM (v := .int (s.1 16)) rfl (pc' := 4) rfl (Nat.le_of_ble_eq_true rfl) (Nat.le_of_ble_eq_true rfl) ?_
  refine am_steps ok_Mo_isBelow 1 (x' := (if ((s.1 16) : Int32) < 0 then 35 else 7, [some (.ref 22), some (.int a)], [], h0, 0, 0)) rfl (Nat.le_of_ble_eq_true rfl) (Nat.le_of_ble_eq_true rfl) ?_
  refine am_if (fun hc1 => ?_) (fun hc1 => ?_)
  · rw [if_pos hc1] at hd
    refine am_steps ok_Mo_isBelow 1 (x' := (36, [some (.ref 22), some (.int a)], [.int 0], h0, 0, 0)) rfl (Nat.le_of_ble_eq_true rfl) (Nat.le_of_ble_eq_true rfl) ?_
    cases hd; exact am_ret ok_Mo_isBelow rfl (Nat.le_of_ble_eq_true rfl) (Nat.le_of_ble_eq_true rfl) ⟨rfl, rfl⟩
  · rw [if_neg hc1] at hd
    refine am_steps ok_Mo_isBelow 1 (x' := (8, [some (.ref 22), some (.int a)], [.ref 22], h0, 0, 0)) rfl (Nat.le_of_ble_eq_true rfl) (Nat.le_of_ble_eq_true rfl) ?_
    refine mr_get ok_Mo_isBelow rfl hM (v := .ref 31) rfl (pc' := 11) rfl (Nat.le_of_ble_eq_true rfl) (Nat.le_of_ble_eq_true rfl) ?_
    refine am_steps ok_Mo_isBelow 4 (x' := (16, [some (.ref 22), some (.int a)], [.ref 22, .int (64 * a), .ref 31], h0, 0, 0)) rfl (Nat.le_of_ble_eq_true rfl) (Nat.le_of_ble_eq_true rfl) ?_
    refine mr_get ok_Mo_isBelow rfl hM (v := .int (s.1 16)) rfl (pc' := 19) rfl (Nat.le_of_ble_eq_true rfl) (Nat.le_of_ble_eq_true rfl) ?_
    refine am_steps ok_Mo_isBelow 1 (x' := (20, [some (.ref 22), some (.int a)], [.int ((64 * a) + (s.1 16)), .ref 31], h0, 0, 0)) rfl (Nat.le_of_ble_eq_true rfl) (Nat.le_of_ble_eq_true rfl) ?_
    obtain ⟨j2, hx3, hd4⟩ := Option.bind_eq_some_iff.mp hd; clear hd; have hd := hd4; clear hd4
    refine mr_lald ok_Mo_isBelow rfl hM (N := 16384) (by decide) hx3 (pc' := 21) rfl (Nat.le_of_ble_eq_true rfl) (Nat.le_of_ble_eq_true rfl) ?_
    refine am_steps ok_Mo_isBelow 2 (x' := (23, [some (.ref 22), some (.int a)], [.int a, .ref 22, .long (s.2.2.2 31 j2)], h0, 0, 0)) rfl (Nat.le_of_ble_eq_true rfl) (Nat.le_of_ble_eq_true rfl) ?_
    obtain ⟨q5, hq6, hd7⟩ := Option.bind_eq_some_iff.mp hd; clear hd; have hd := hd7; clear hd7
    refine ar_cv ok_Mo_isBelow hk_Mo_credit rfl rfl (As := [.int a]) (ad := 22) (rest := [.long (s.2.2.2 31 j2)]) rfl rfl hM.1 (Nat.le_of_ble_eq_true rfl) (k_Mo_credit a s h0 hM q5 hq6) (Nat.le_of_ble_eq_true rfl) (Nat.le_of_ble_eq_true rfl) (Nat.le_of_ble_eq_true rfl) (Nat.le_of_ble_eq_true rfl) (pc' := 26) rfl (fun r8 h10 z9 => ?_)
    obtain ⟨z14, z15⟩ := z9; subst z14; rw [z15]
    show am_S _ _ _ _ _ _ _ (26, [some (.ref 22), some (.int a)], [.long q5, .long (s.2.2.2 31 j2)], h0, 0, 0) _
    refine am_steps ok_Mo_isBelow 3 (x' := (if (0 : Int32) ≤ (lg_cmp (s.2.2.2 31 j2) (-q5)) then 35 else 31, [some (.ref 22), some (.int a)], [], h0, 0, 0)) rfl (Nat.le_of_ble_eq_true rfl) (Nat.le_of_ble_eq_true rfl) ?_
    refine am_if (fun hc16 => ?_) (fun hc16 => ?_)
    · rw [if_pos hc16] at hd
      refine am_steps ok_Mo_isBelow 1 (x' := (36, [some (.ref 22), some (.int a)], [.int 0], h0, 0, 0)) rfl (Nat.le_of_ble_eq_true rfl) (Nat.le_of_ble_eq_true rfl) ?_
      cases hd; exact am_ret ok_Mo_isBelow rfl (Nat.le_of_ble_eq_true rfl) (Nat.le_of_ble_eq_true rfl) ⟨rfl, rfl⟩
    · rw [if_neg hc16] at hd
      refine am_steps ok_Mo_isBelow 2 (x' := (36, [some (.ref 22), some (.int a)], [.int 1], h0, 0, 0)) rfl (Nat.le_of_ble_eq_true rfl) (Nat.le_of_ble_eq_true rfl) ?_
      cases hd; exact am_ret ok_Mo_isBelow rfl (Nat.le_of_ble_eq_true rfl) (Nat.le_of_ble_eq_true rfl) ⟨rfl, rfl⟩
def l_Mo_allCredit_4 : Nat → Int64 → Int32 → mS → Option (Int64)
  | 0, _, _, _ => none
  | fu + 1, v1, v3, s => if ((s.1 10) : Int32) ≤ v3 then (some v1) else ((d_Mo_credit v3 s).bind fun q2 => ((if ((lg_cmp (v1 + q2) (Int64.ofNat 4000000000000000000)) : Int32) ≤ 0 then (some (v1 + q2)) else (some (Int64.ofNat 4000000000000000001))).bind fun (u13 : Int64) => (l_Mo_allCredit_4 fu u13 (v3 + 1) s)))
set_option maxHeartbeats 4000000 in
set_option maxRecDepth 100000 in
theorem L_Mo_allCredit_4 {Q : Option Value → am_H → Prop} (s : mS) (h : am_H) (hM : RM s h) : ∀ (fu : Nat) (v1 : Int64) (v3 : Int32) (q : Int64), l_Mo_allCredit_4 fu v1 v3 s = some q → am_S am_Pr none 2 57 0 0 51 (42, [some (.ref 22), some (.long q), none, none], [], h, 0, 0) Q → am_S am_Pr none 2 57 0 0 51 (4, [some (.ref 22), some (.long v1), none, some (.int v3)], [], h, 0, 0) Q := by
  intro fu
  induction fu with
  | zero => intro v1 v3 q hd; cases hd
  | succ fu ih =>
    intro v1 v3 q hd kk
    unfold l_Mo_allCredit_4 at hd
    refine am_steps ok_Mo_allCredit 2 (x' := (6, [some (.ref 22), some (.long v1), none, some (.int v3)], [.ref 22, .int v3], h, 0, 0)) rfl (Nat.le_of_ble_eq_true rfl) (Nat.le_of_ble_eq_true rfl) ?_
    refine mr_get ok_Mo_allCredit rfl hM (v := .int (s.1 10)) rfl (pc' := 9) rfl (Nat.le_of_ble_eq_true rfl) (Nat.le_of_ble_eq_true rfl) ?_
    refine am_steps ok_Mo_allCredit 1 (x' := (if ((s.1 10) : Int32) ≤ v3 then 42 else 12, [some (.ref 22), some (.long v1), none, some (.int v3)], [], h, 0, 0)) rfl (Nat.le_of_ble_eq_true rfl) (Nat.le_of_ble_eq_true rfl) ?_
    refine am_if (fun hc1 => ?_) (fun hc1 => ?_)
    · rw [if_pos hc1] at hd
      refine am_drop 3 ?_
      cases hd; exact kk
    · rw [if_neg hc1] at hd
      refine am_steps ok_Mo_allCredit 3 (x' := (15, [some (.ref 22), some (.long v1), none, some (.int v3)], [.int v3, .ref 22, .long v1], h, 0, 0)) rfl (Nat.le_of_ble_eq_true rfl) (Nat.le_of_ble_eq_true rfl) ?_
      obtain ⟨q2, hq3, hd4⟩ := Option.bind_eq_some_iff.mp hd; clear hd; have hd := hd4; clear hd4
      refine ar_cv ok_Mo_allCredit hk_Mo_credit rfl rfl (As := [.int v3]) (ad := 22) (rest := [.long v1]) rfl rfl hM.1 (Nat.le_of_ble_eq_true rfl) (k_Mo_credit v3 s h hM q2 hq3) (Nat.le_of_ble_eq_true rfl) (Nat.le_of_ble_eq_true rfl) (Nat.le_of_ble_eq_true rfl) (Nat.le_of_ble_eq_true rfl) (pc' := 18) rfl (fun r5 h7 z6 => ?_)
      obtain ⟨z11, z12⟩ := z6; subst z11; rw [z12]
      show am_S _ _ _ _ _ _ _ (18, [some (.ref 22), some (.long v1), none, some (.int v3)], [.long q2, .long v1], h, 0, 0) _
      refine am_steps ok_Mo_allCredit 6 (x' := (if ((lg_cmp (v1 + q2) (Int64.ofNat 4000000000000000000)) : Int32) ≤ 0 then 34 else 28, [some (.ref 22), some (.long (v1 + q2)), none, some (.int v3)], [], h, 0, 0)) rfl (Nat.le_of_ble_eq_true rfl) (Nat.le_of_ble_eq_true rfl) ?_
      obtain ⟨u13, hA15, hB16⟩ := Option.bind_eq_some_iff.mp hd; clear hd
      have K14 : am_S am_Pr none 2 57 0 0 51 (35, [some (.ref 22), none, none, some (.int v3)], [.long u13], h, 0, 0) Q := by
        have hd := hB16
        refine am_steps ok_Mo_allCredit 3 (x' := (4, [some (.ref 22), some (.long u13), none, some (.int (v3 + 1))], [], h, 0, 0)) rfl (Nat.le_of_ble_eq_true rfl) (Nat.le_of_ble_eq_true rfl) ?_
        exact ih u13 (v3 + 1) q hd kk
      clear hB16; have hd := hA15; clear hA15
      refine am_if (fun hc17 => ?_) (fun hc17 => ?_)
      · rw [if_pos hc17] at hd
        refine am_steps ok_Mo_allCredit 1 (x' := (35, [some (.ref 22), some (.long (v1 + q2)), none, some (.int v3)], [.long (v1 + q2)], h, 0, 0)) rfl (Nat.le_of_ble_eq_true rfl) (Nat.le_of_ble_eq_true rfl) ?_
        refine am_drop 1 ?_
        cases hd; exact K14 
      · rw [if_neg hc17] at hd
        refine am_steps ok_Mo_allCredit 2 (x' := (35, [some (.ref 22), some (.long (v1 + q2)), none, some (.int v3)], [.long (Int64.ofNat 4000000000000000001)], h, 0, 0)) rfl (Nat.le_of_ble_eq_true rfl) (Nat.le_of_ble_eq_true rfl) ?_
        refine am_drop 1 ?_
        cases hd; exact K14 
def d_Mo_allCredit  (s : mS) : Option (Int64) := (l_Mo_allCredit_4 100000 0 1 s).bind fun q18 => (some q18)
set_option maxHeartbeats 4000000 in
set_option maxRecDepth 100000 in
theorem k_Mo_allCredit  (s : mS) (h0 : am_H) (hM : RM s h0) (q : Int64) (hd : d_Mo_allCredit  s = some q) : am_Me am_Pr none 2 57 0 0 51 [.ref 22] h0 (am_is (some (.long q)) h0) := by
  refine am_enter (d := hd_Mo_allCredit) rfl (by decide +kernel) (Nat.le_of_ble_eq_true rfl) ?_
  show am_S _ _ _ _ _ _ _ (0, [some (.ref 22), none, none, none], [], h0, 0, 0) _
  unfold d_Mo_allCredit at hd
  refine am_steps ok_Mo_allCredit 4 (x' := (4, [some (.ref 22), some (.long 0), none, some (.int 1)], [], h0, 0, 0)) rfl (Nat.le_of_ble_eq_true rfl) (Nat.le_of_ble_eq_true rfl) ?_
  obtain ⟨q18, hq19, hd20⟩ := Option.bind_eq_some_iff.mp hd; clear hd; have hd := hd20; clear hd20
  refine L_Mo_allCredit_4 s h0 hM 100000 0 1 q18 hq19 ?_
  show am_S _ _ _ _ _ _ _ (42, [some (.ref 22), some (.long q18), none, none], [], h0, 0, 0) _
  refine am_steps ok_Mo_allCredit 1 (x' := (43, [some (.ref 22), some (.long q18), none, none], [.long q18], h0, 0, 0)) rfl (Nat.le_of_ble_eq_true rfl) (Nat.le_of_ble_eq_true rfl) ?_
  cases hd; exact am_ret ok_Mo_allCredit rfl (Nat.le_of_ble_eq_true rfl) (Nat.le_of_ble_eq_true rfl) ⟨rfl, rfl⟩
def l_Mo_priceFault_68 : Nat → Int32 → Int64 → Int32 → Int32 → Int32 → mS → Option (Int32)
  | 0, _, _, _, _, _, _ => none
  | fu + 1, v1, v2, v4, v5, v6, s => if ((s.1 10) : Int32) ≤ v6 then (some v5) else ((if ¬ (v5 : Int32) = 0 then (some 1) else ((d_Mo_isBelow v6 s).bind fun q52 => (if (q52 : Int32) = 0 then (some 0) else (some 1)))).bind fun (u47 : Int32) => (l_Mo_priceFault_68 fu v1 v2 v4 u47 (v6 + 1) s))
set_option maxHeartbeats 4000000 in
set_option maxRecDepth 100000 in
theorem L_Mo_priceFault_68 {Q : Option Value → am_H → Prop} (s : mS) (h : am_H) (hM : RM s h) : ∀ (fu : Nat) (v1 : Int32) (v2 : Int64) (v4 : Int32) (v5 : Int32) (v6 : Int32) (q : Int32), l_Mo_priceFault_68 fu v1 v2 v4 v5 v6 s = some q → am_S am_Pr none 3 80 0 0 42 (104, [some (.ref 22), some (.int v1), some (.long v2), none, some (.int v4), some (.int q), none], [], h, 0, 0) Q → am_S am_Pr none 3 80 0 0 42 (68, [some (.ref 22), some (.int v1), some (.long v2), none, some (.int v4), some (.int v5), some (.int v6)], [], h, 0, 0) Q := by
  intro fu
  induction fu with
  | zero => intro v1 v2 v4 v5 v6 q hd; cases hd
  | succ fu ih =>
    intro v1 v2 v4 v5 v6 q hd kk
    unfold l_Mo_priceFault_68 at hd
    refine am_steps ok_Mo_priceFault 2 (x' := (71, [some (.ref 22), some (.int v1), some (.long v2), none, some (.int v4), some (.int v5), some (.int v6)], [.ref 22, .int v6], h, 0, 0)) rfl (Nat.le_of_ble_eq_true rfl) (Nat.le_of_ble_eq_true rfl) ?_
    refine mr_get ok_Mo_priceFault rfl hM (v := .int (s.1 10)) rfl (pc' := 74) rfl (Nat.le_of_ble_eq_true rfl) (Nat.le_of_ble_eq_true rfl) ?_
    refine am_steps ok_Mo_priceFault 1 (x' := (if ((s.1 10) : Int32) ≤ v6 then 104 else 77, [some (.ref 22), some (.int v1), some (.long v2), none, some (.int v4), some (.int v5), some (.int v6)], [], h, 0, 0)) rfl (Nat.le_of_ble_eq_true rfl) (Nat.le_of_ble_eq_true rfl) ?_
    refine am_if (fun hc46 => ?_) (fun hc46 => ?_)
    · rw [if_pos hc46] at hd
      refine am_drop 6 ?_
      cases hd; exact kk
    · rw [if_neg hc46] at hd
      refine am_steps ok_Mo_priceFault 2 (x' := (if ¬ (v5 : Int32) = 0 then 91 else 82, [some (.ref 22), some (.int v1), some (.long v2), none, some (.int v4), some (.int v5), some (.int v6)], [], h, 0, 0)) rfl (Nat.le_of_ble_eq_true rfl) (Nat.le_of_ble_eq_true rfl) ?_
      obtain ⟨u47, hA49, hB50⟩ := Option.bind_eq_some_iff.mp hd; clear hd
      have K48 : am_S am_Pr none 3 80 0 0 42 (96, [some (.ref 22), some (.int v1), some (.long v2), none, some (.int v4), none, some (.int v6)], [.int u47], h, 0, 0) Q := by
        have hd := hB50
        refine am_steps ok_Mo_priceFault 3 (x' := (68, [some (.ref 22), some (.int v1), some (.long v2), none, some (.int v4), some (.int u47), some (.int (v6 + 1))], [], h, 0, 0)) rfl (Nat.le_of_ble_eq_true rfl) (Nat.le_of_ble_eq_true rfl) ?_
        exact ih v1 v2 v4 u47 (v6 + 1) q hd kk
      clear hB50; have hd := hA49; clear hA49
      refine am_if (fun hc51 => ?_) (fun hc51 => ?_)
      · rw [if_pos hc51] at hd
        refine am_steps ok_Mo_priceFault 2 (x' := (96, [some (.ref 22), some (.int v1), some (.long v2), none, some (.int v4), some (.int v5), some (.int v6)], [.int 1], h, 0, 0)) rfl (Nat.le_of_ble_eq_true rfl) (Nat.le_of_ble_eq_true rfl) ?_
        refine am_drop 5 ?_
        cases hd; exact K48 
      · rw [if_neg hc51] at hd
        refine am_steps ok_Mo_priceFault 2 (x' := (85, [some (.ref 22), some (.int v1), some (.long v2), none, some (.int v4), some (.int v5), some (.int v6)], [.int v6, .ref 22], h, 0, 0)) rfl (Nat.le_of_ble_eq_true rfl) (Nat.le_of_ble_eq_true rfl) ?_
        obtain ⟨q52, hq53, hd54⟩ := Option.bind_eq_some_iff.mp hd; clear hd; have hd := hd54; clear hd54
        refine ar_cv ok_Mo_priceFault hk_Mo_isBelow rfl rfl (As := [.int v6]) (ad := 22) (rest := []) rfl rfl hM.1 (Nat.le_of_ble_eq_true rfl) (k_Mo_isBelow v6 s h hM q52 hq53) (Nat.le_of_ble_eq_true rfl) (Nat.le_of_ble_eq_true rfl) (Nat.le_of_ble_eq_true rfl) (Nat.le_of_ble_eq_true rfl) (pc' := 88) rfl (fun r55 h57 z56 => ?_)
        obtain ⟨z61, z62⟩ := z56; subst z61; rw [z62]
        show am_S _ _ _ _ _ _ _ (88, [some (.ref 22), some (.int v1), some (.long v2), none, some (.int v4), some (.int v5), some (.int v6)], [.int q52], h, 0, 0) _
        refine am_steps ok_Mo_priceFault 1 (x' := (if (q52 : Int32) = 0 then 95 else 91, [some (.ref 22), some (.int v1), some (.long v2), none, some (.int v4), some (.int v5), some (.int v6)], [], h, 0, 0)) rfl (Nat.le_of_ble_eq_true rfl) (Nat.le_of_ble_eq_true rfl) ?_
        refine am_if (fun hc63 => ?_) (fun hc63 => ?_)
        · rw [if_pos hc63] at hd
          refine am_steps ok_Mo_priceFault 1 (x' := (96, [some (.ref 22), some (.int v1), some (.long v2), none, some (.int v4), some (.int v5), some (.int v6)], [.int 0], h, 0, 0)) rfl (Nat.le_of_ble_eq_true rfl) (Nat.le_of_ble_eq_true rfl) ?_
          refine am_drop 5 ?_
          cases hd; exact K48 
        · rw [if_neg hc63] at hd
          refine am_steps ok_Mo_priceFault 2 (x' := (96, [some (.ref 22), some (.int v1), some (.long v2), none, some (.int v4), some (.int v5), some (.int v6)], [.int 1], h, 0, 0)) rfl (Nat.le_of_ble_eq_true rfl) (Nat.le_of_ble_eq_true rfl) ?_
          refine am_drop 5 ?_
          cases hd; exact K48 
def d_Mo_priceFault  (s : mS) : Option (Int32 × mS) := (d_Mo_assetAt 15 s).bind fun q1 => ((am_ix q1 64).bind fun j12 => (if ((s.2.2.1 28 j12) : Int32) = 0 then ((d_Mo_number 18 15 s).bind fun q16 => ((d_Mo_number 33 2 (mB s 29 j12 q16)).bind fun q31 => ((l_Mo_priceFault_68 100000 q1 (s.2.2.2 29 j12) (s.2.2.1 30 j12) 0 1 (mA (mB s 29 j12 q16) 30 j12 (Int64.toInt32 q31))).bind fun q64 => ((d_Mo_allCredit  (mA (mB s 29 j12 q16) 30 j12 (Int64.toInt32 q31))).bind fun q67 => ((if ((lg_cmp q67 (Int64.ofNat 4000000000000000000)) : Int32) ≤ 0 then (some 0) else (some 1)).bind fun (u78 : Int32) => (if (q64 : Int32) = 0 then (if (u78 : Int32) = 0 then (some (0, (mA (mB (mA (mB s 29 j12 q16) 30 j12 (Int64.toInt32 q31)) 29 j12 (s.2.2.2 29 j12)) 30 j12 (s.2.2.1 30 j12)))) else (some (10, (mA (mB (mA (mB s 29 j12 q16) 30 j12 (Int64.toInt32 q31)) 29 j12 (s.2.2.2 29 j12)) 30 j12 (s.2.2.1 30 j12))))) else (some (9, (mA (mB (mA (mB s 29 j12 q16) 30 j12 (Int64.toInt32 q31)) 29 j12 (s.2.2.2 29 j12)) 30 j12 (s.2.2.1 30 j12)))))))))) else (some (8, s))))
set_option maxHeartbeats 4000000 in
set_option maxRecDepth 100000 in
theorem k_Mo_priceFault  (s : mS) (h0 : am_H) (hM : RM s h0) (q : Int32 × mS) (hd : d_Mo_priceFault  s = some q) : am_Me am_Pr none 3 80 0 0 42 [.ref 22] h0 (mQr (.int q.1) q.2 h0) := by
  refine am_enter (d := hd_Mo_priceFault) rfl (by decide +kernel) (Nat.le_of_ble_eq_true rfl) ?_
  show am_S _ _ _ _ _ _ _ (0, [some (.ref 22), none, none, none, none, none, none], [], h0, 0, 0) _
  unfold d_Mo_priceFault at hd
  refine am_steps ok_Mo_priceFault 2 (x' := (3, [some (.ref 22), none, none, none, none, none, none], [.int 15, .ref 22], h0, 0, 0)) rfl (Nat.le_of_ble_eq_true rfl) (Nat.le_of_ble_eq_true rfl) ?_
  obtain ⟨q1, hq2, hd3⟩ := Option.bind_eq_some_iff.mp hd; clear hd; have hd := hd3; clear hd3
  refine ar_cv ok_Mo_priceFault hk_Mo_assetAt rfl rfl (As := [.int 15]) (ad := 22) (rest := []) rfl rfl hM.1 (Nat.le_of_ble_eq_true rfl) (k_Mo_assetAt 15 s h0 hM q1 hq2) (Nat.le_of_ble_eq_true rfl) (Nat.le_of_ble_eq_true rfl) (Nat.le_of_ble_eq_true rfl) (Nat.le_of_ble_eq_true rfl) (pc' := 6) rfl (fun r4 h6 z5 => ?_)
  obtain ⟨z10, z11⟩ := z5; subst z10; rw [z11]
  show am_S _ _ _ _ _ _ _ (6, [some (.ref 22), none, none, none, none, none, none], [.int q1], h0, 0, 0) _
  refine am_steps ok_Mo_priceFault 2 (x' := (8, [some (.ref 22), some (.int q1), none, none, none, none, none], [.ref 22], h0, 0, 0)) rfl (Nat.le_of_ble_eq_true rfl) (Nat.le_of_ble_eq_true rfl) ?_
  refine mr_get ok_Mo_priceFault rfl hM (v := .ref 28) rfl (pc' := 11) rfl (Nat.le_of_ble_eq_true rfl) (Nat.le_of_ble_eq_true rfl) ?_
  refine am_steps ok_Mo_priceFault 1 (x' := (12, [some (.ref 22), some (.int q1), none, none, none, none, none], [.int q1, .ref 28], h0, 0, 0)) rfl (Nat.le_of_ble_eq_true rfl) (Nat.le_of_ble_eq_true rfl) ?_
  obtain ⟨j12, hx13, hd14⟩ := Option.bind_eq_some_iff.mp hd; clear hd; have hd := hd14; clear hd14
  refine mr_bald ok_Mo_priceFault rfl hM (N := 64) (by decide) (Or.inr rfl) hx13 (pc' := 13) rfl (Nat.le_of_ble_eq_true rfl) (Nat.le_of_ble_eq_true rfl) ?_
  refine am_steps ok_Mo_priceFault 1 (x' := (if ((s.2.2.1 28 j12) : Int32) = 0 then 19 else 16, [some (.ref 22), some (.int q1), none, none, none, none, none], [], h0, 0, 0)) rfl (Nat.le_of_ble_eq_true rfl) (Nat.le_of_ble_eq_true rfl) ?_
  refine am_if (fun hc15 => ?_) (fun hc15 => ?_)
  · rw [if_pos hc15] at hd
    refine am_steps ok_Mo_priceFault 1 (x' := (20, [some (.ref 22), some (.int q1), none, none, none, none, none], [.ref 22], h0, 0, 0)) rfl (Nat.le_of_ble_eq_true rfl) (Nat.le_of_ble_eq_true rfl) ?_
    refine mr_get ok_Mo_priceFault rfl hM (v := .ref 29) rfl (pc' := 23) rfl (Nat.le_of_ble_eq_true rfl) (Nat.le_of_ble_eq_true rfl) ?_
    refine am_steps ok_Mo_priceFault 1 (x' := (24, [some (.ref 22), some (.int q1), none, none, none, none, none], [.int q1, .ref 29], h0, 0, 0)) rfl (Nat.le_of_ble_eq_true rfl) (Nat.le_of_ble_eq_true rfl) ?_
    refine mr_lald ok_Mo_priceFault rfl hM (N := 64) (by decide) hx13 (pc' := 25) rfl (Nat.le_of_ble_eq_true rfl) (Nat.le_of_ble_eq_true rfl) ?_
    refine am_steps ok_Mo_priceFault 2 (x' := (27, [some (.ref 22), some (.int q1), some (.long (s.2.2.2 29 j12)), none, none, none, none], [.ref 22], h0, 0, 0)) rfl (Nat.le_of_ble_eq_true rfl) (Nat.le_of_ble_eq_true rfl) ?_
    refine mr_get ok_Mo_priceFault rfl hM (v := .ref 30) rfl (pc' := 30) rfl (Nat.le_of_ble_eq_true rfl) (Nat.le_of_ble_eq_true rfl) ?_
    refine am_steps ok_Mo_priceFault 1 (x' := (31, [some (.ref 22), some (.int q1), some (.long (s.2.2.2 29 j12)), none, none, none, none], [.int q1, .ref 30], h0, 0, 0)) rfl (Nat.le_of_ble_eq_true rfl) (Nat.le_of_ble_eq_true rfl) ?_
    refine mr_iald ok_Mo_priceFault rfl hM (N := 64) (by decide) hx13 (pc' := 32) rfl (Nat.le_of_ble_eq_true rfl) (Nat.le_of_ble_eq_true rfl) ?_
    refine am_steps ok_Mo_priceFault 2 (x' := (35, [some (.ref 22), some (.int q1), some (.long (s.2.2.2 29 j12)), none, some (.int (s.2.2.1 30 j12)), none, none], [.ref 22], h0, 0, 0)) rfl (Nat.le_of_ble_eq_true rfl) (Nat.le_of_ble_eq_true rfl) ?_
    refine mr_get ok_Mo_priceFault rfl hM (v := .ref 29) rfl (pc' := 38) rfl (Nat.le_of_ble_eq_true rfl) (Nat.le_of_ble_eq_true rfl) ?_
    refine am_steps ok_Mo_priceFault 4 (x' := (44, [some (.ref 22), some (.int q1), some (.long (s.2.2.2 29 j12)), none, some (.int (s.2.2.1 30 j12)), none, none], [.int 15, .int 18, .ref 22, .int q1, .ref 29], h0, 0, 0)) rfl (Nat.le_of_ble_eq_true rfl) (Nat.le_of_ble_eq_true rfl) ?_
    obtain ⟨q16, hq17, hd18⟩ := Option.bind_eq_some_iff.mp hd; clear hd; have hd := hd18; clear hd18
    refine ar_cv ok_Mo_priceFault hk_Mo_number rfl rfl (As := [.int 18, .int 15]) (ad := 22) (rest := [.int q1, .ref 29]) rfl rfl hM.1 (Nat.le_of_ble_eq_true rfl) (k_Mo_number 18 15 s h0 hM q16 hq17) (Nat.le_of_ble_eq_true rfl) (Nat.le_of_ble_eq_true rfl) (Nat.le_of_ble_eq_true rfl) (Nat.le_of_ble_eq_true rfl) (pc' := 47) rfl (fun r19 h21 z20 => ?_)
    obtain ⟨z25, z26⟩ := z20; subst z25; rw [z26]
    show am_S _ _ _ _ _ _ _ (47, [some (.ref 22), some (.int q1), some (.long (s.2.2.2 29 j12)), none, some (.int (s.2.2.1 30 j12)), none, none], [.long q16, .int q1, .ref 29], h0, 0, 0) _
    refine mr_last ok_Mo_priceFault rfl hM (N := 64) (by decide) hx13 (pc' := 48) rfl (Nat.le_of_ble_eq_true rfl) (Nat.le_of_ble_eq_true rfl) (fun h27 hM28 g30 => ?_)
    have f29 := mF.tr (mF.rf) g30
    refine am_steps ok_Mo_priceFault 1 (x' := (49, [some (.ref 22), some (.int q1), some (.long (s.2.2.2 29 j12)), none, some (.int (s.2.2.1 30 j12)), none, none], [.ref 22], h27, 0, 0)) rfl (Nat.le_of_ble_eq_true rfl) (Nat.le_of_ble_eq_true rfl) ?_
    refine mr_get ok_Mo_priceFault rfl hM28 (v := .ref 30) rfl (pc' := 52) rfl (Nat.le_of_ble_eq_true rfl) (Nat.le_of_ble_eq_true rfl) ?_
    refine am_steps ok_Mo_priceFault 4 (x' := (57, [some (.ref 22), some (.int q1), some (.long (s.2.2.2 29 j12)), none, some (.int (s.2.2.1 30 j12)), none, none], [.int 2, .int 33, .ref 22, .int q1, .ref 30], h27, 0, 0)) rfl (Nat.le_of_ble_eq_true rfl) (Nat.le_of_ble_eq_true rfl) ?_
    obtain ⟨q31, hq32, hd33⟩ := Option.bind_eq_some_iff.mp hd; clear hd; have hd := hd33; clear hd33
    refine ar_cv ok_Mo_priceFault hk_Mo_number rfl rfl (As := [.int 33, .int 2]) (ad := 22) (rest := [.int q1, .ref 30]) rfl rfl hM28.1 (Nat.le_of_ble_eq_true rfl) (k_Mo_number 33 2 (mB s 29 j12 q16) h27 hM28 q31 hq32) (Nat.le_of_ble_eq_true rfl) (Nat.le_of_ble_eq_true rfl) (Nat.le_of_ble_eq_true rfl) (Nat.le_of_ble_eq_true rfl) (pc' := 60) rfl (fun r34 h36 z35 => ?_)
    obtain ⟨z40, z41⟩ := z35; subst z40; rw [z41]
    show am_S _ _ _ _ _ _ _ (60, [some (.ref 22), some (.int q1), some (.long (s.2.2.2 29 j12)), none, some (.int (s.2.2.1 30 j12)), none, none], [.long q31, .int q1, .ref 30], h27, 0, 0) _
    refine am_steps ok_Mo_priceFault 1 (x' := (61, [some (.ref 22), some (.int q1), some (.long (s.2.2.2 29 j12)), none, some (.int (s.2.2.1 30 j12)), none, none], [.int (Int64.toInt32 q31), .int q1, .ref 30], h27, 0, 0)) rfl (Nat.le_of_ble_eq_true rfl) (Nat.le_of_ble_eq_true rfl) ?_
    refine mr_iast ok_Mo_priceFault rfl hM28 (N := 64) (by decide) hx13 (pc' := 62) rfl (Nat.le_of_ble_eq_true rfl) (Nat.le_of_ble_eq_true rfl) (fun h42 hM43 g45 => ?_)
    have f44 := mF.tr f29 g45
    refine am_steps ok_Mo_priceFault 4 (x' := (68, [some (.ref 22), some (.int q1), some (.long (s.2.2.2 29 j12)), none, some (.int (s.2.2.1 30 j12)), some (.int 0), some (.int 1)], [], h42, 0, 0)) rfl (Nat.le_of_ble_eq_true rfl) (Nat.le_of_ble_eq_true rfl) ?_
    obtain ⟨q64, hq65, hd66⟩ := Option.bind_eq_some_iff.mp hd; clear hd; have hd := hd66; clear hd66
    refine L_Mo_priceFault_68 (mA (mB s 29 j12 q16) 30 j12 (Int64.toInt32 q31)) h42 hM43 100000 q1 (s.2.2.2 29 j12) (s.2.2.1 30 j12) 0 1 q64 hq65 ?_
    show am_S _ _ _ _ _ _ _ (104, [some (.ref 22), some (.int q1), some (.long (s.2.2.2 29 j12)), none, some (.int (s.2.2.1 30 j12)), some (.int q64), none], [], h42, 0, 0) _
    refine am_steps ok_Mo_priceFault 1 (x' := (105, [some (.ref 22), some (.int q1), some (.long (s.2.2.2 29 j12)), none, some (.int (s.2.2.1 30 j12)), some (.int q64), none], [.ref 22], h42, 0, 0)) rfl (Nat.le_of_ble_eq_true rfl) (Nat.le_of_ble_eq_true rfl) ?_
    obtain ⟨q67, hq68, hd69⟩ := Option.bind_eq_some_iff.mp hd; clear hd; have hd := hd69; clear hd69
    refine ar_cv ok_Mo_priceFault hk_Mo_allCredit rfl rfl (As := []) (ad := 22) (rest := []) rfl rfl hM43.1 (Nat.le_of_ble_eq_true rfl) (k_Mo_allCredit  (mA (mB s 29 j12 q16) 30 j12 (Int64.toInt32 q31)) h42 hM43 q67 hq68) (Nat.le_of_ble_eq_true rfl) (Nat.le_of_ble_eq_true rfl) (Nat.le_of_ble_eq_true rfl) (Nat.le_of_ble_eq_true rfl) (pc' := 108) rfl (fun r70 h72 z71 => ?_)
    obtain ⟨z76, z77⟩ := z71; subst z76; rw [z77]
    show am_S _ _ _ _ _ _ _ (108, [some (.ref 22), some (.int q1), some (.long (s.2.2.2 29 j12)), none, some (.int (s.2.2.1 30 j12)), some (.int q64), none], [.long q67], h42, 0, 0) _
    refine am_steps ok_Mo_priceFault 3 (x' := (if ((lg_cmp q67 (Int64.ofNat 4000000000000000000)) : Int32) ≤ 0 then 119 else 115, [some (.ref 22), some (.int q1), some (.long (s.2.2.2 29 j12)), none, some (.int (s.2.2.1 30 j12)), some (.int q64), none], [], h42, 0, 0)) rfl (Nat.le_of_ble_eq_true rfl) (Nat.le_of_ble_eq_true rfl) ?_
    obtain ⟨u78, hA80, hB81⟩ := Option.bind_eq_some_iff.mp hd; clear hd
    have K79 : am_S am_Pr none 3 80 0 0 42 (120, [some (.ref 22), some (.int q1), some (.long (s.2.2.2 29 j12)), none, some (.int (s.2.2.1 30 j12)), some (.int q64), none], [.int u78], h42, 0, 0) (mQr (.int q.1) q.2 h0) := by
      have hd := hB81
      refine am_steps ok_Mo_priceFault 2 (x' := (123, [some (.ref 22), some (.int q1), some (.long (s.2.2.2 29 j12)), none, some (.int (s.2.2.1 30 j12)), some (.int q64), some (.int u78)], [.ref 22], h42, 0, 0)) rfl (Nat.le_of_ble_eq_true rfl) (Nat.le_of_ble_eq_true rfl) ?_
      refine mr_get ok_Mo_priceFault rfl hM43 (v := .ref 29) rfl (pc' := 126) rfl (Nat.le_of_ble_eq_true rfl) (Nat.le_of_ble_eq_true rfl) ?_
      refine am_steps ok_Mo_priceFault 2 (x' := (128, [some (.ref 22), some (.int q1), some (.long (s.2.2.2 29 j12)), none, some (.int (s.2.2.1 30 j12)), some (.int q64), some (.int u78)], [.long (s.2.2.2 29 j12), .int q1, .ref 29], h42, 0, 0)) rfl (Nat.le_of_ble_eq_true rfl) (Nat.le_of_ble_eq_true rfl) ?_
      refine mr_last ok_Mo_priceFault rfl hM43 (N := 64) (by decide) hx13 (pc' := 129) rfl (Nat.le_of_ble_eq_true rfl) (Nat.le_of_ble_eq_true rfl) (fun h82 hM83 g85 => ?_)
      have f84 := mF.tr f44 g85
      refine am_steps ok_Mo_priceFault 1 (x' := (130, [some (.ref 22), some (.int q1), some (.long (s.2.2.2 29 j12)), none, some (.int (s.2.2.1 30 j12)), some (.int q64), some (.int u78)], [.ref 22], h82, 0, 0)) rfl (Nat.le_of_ble_eq_true rfl) (Nat.le_of_ble_eq_true rfl) ?_
      refine mr_get ok_Mo_priceFault rfl hM83 (v := .ref 30) rfl (pc' := 133) rfl (Nat.le_of_ble_eq_true rfl) (Nat.le_of_ble_eq_true rfl) ?_
      refine am_steps ok_Mo_priceFault 2 (x' := (136, [some (.ref 22), some (.int q1), some (.long (s.2.2.2 29 j12)), none, some (.int (s.2.2.1 30 j12)), some (.int q64), some (.int u78)], [.int (s.2.2.1 30 j12), .int q1, .ref 30], h82, 0, 0)) rfl (Nat.le_of_ble_eq_true rfl) (Nat.le_of_ble_eq_true rfl) ?_
      refine mr_iast ok_Mo_priceFault rfl hM83 (N := 64) (by decide) hx13 (pc' := 137) rfl (Nat.le_of_ble_eq_true rfl) (Nat.le_of_ble_eq_true rfl) (fun h86 hM87 g89 => ?_)
      have f88 := mF.tr f84 g89
      refine am_steps ok_Mo_priceFault 2 (x' := (if (q64 : Int32) = 0 then 147 else 142, [some (.ref 22), some (.int q1), some (.long (s.2.2.2 29 j12)), none, some (.int (s.2.2.1 30 j12)), some (.int q64), some (.int u78)], [], h86, 0, 0)) rfl (Nat.le_of_ble_eq_true rfl) (Nat.le_of_ble_eq_true rfl) ?_
      refine am_if (fun hc90 => ?_) (fun hc90 => ?_)
      · rw [if_pos hc90] at hd
        refine am_steps ok_Mo_priceFault 2 (x' := (if (u78 : Int32) = 0 then 157 else 152, [some (.ref 22), some (.int q1), some (.long (s.2.2.2 29 j12)), none, some (.int (s.2.2.1 30 j12)), some (.int q64), some (.int u78)], [], h86, 0, 0)) rfl (Nat.le_of_ble_eq_true rfl) (Nat.le_of_ble_eq_true rfl) ?_
        refine am_if (fun hc91 => ?_) (fun hc91 => ?_)
        · rw [if_pos hc91] at hd
          refine am_steps ok_Mo_priceFault 1 (x' := (158, [some (.ref 22), some (.int q1), some (.long (s.2.2.2 29 j12)), none, some (.int (s.2.2.1 30 j12)), some (.int q64), some (.int u78)], [.int 0], h86, 0, 0)) rfl (Nat.le_of_ble_eq_true rfl) (Nat.le_of_ble_eq_true rfl) ?_
          cases hd; exact am_ret ok_Mo_priceFault rfl (Nat.le_of_ble_eq_true rfl) (Nat.le_of_ble_eq_true rfl) ⟨rfl, hM87, f88⟩
        · rw [if_neg hc91] at hd
          refine am_steps ok_Mo_priceFault 2 (x' := (158, [some (.ref 22), some (.int q1), some (.long (s.2.2.2 29 j12)), none, some (.int (s.2.2.1 30 j12)), some (.int q64), some (.int u78)], [.int 10], h86, 0, 0)) rfl (Nat.le_of_ble_eq_true rfl) (Nat.le_of_ble_eq_true rfl) ?_
          cases hd; exact am_ret ok_Mo_priceFault rfl (Nat.le_of_ble_eq_true rfl) (Nat.le_of_ble_eq_true rfl) ⟨rfl, hM87, f88⟩
      · rw [if_neg hc90] at hd
        refine am_steps ok_Mo_priceFault 2 (x' := (158, [some (.ref 22), some (.int q1), some (.long (s.2.2.2 29 j12)), none, some (.int (s.2.2.1 30 j12)), some (.int q64), some (.int u78)], [.int 9], h86, 0, 0)) rfl (Nat.le_of_ble_eq_true rfl) (Nat.le_of_ble_eq_true rfl) ?_
        cases hd; exact am_ret ok_Mo_priceFault rfl (Nat.le_of_ble_eq_true rfl) (Nat.le_of_ble_eq_true rfl) ⟨rfl, hM87, f88⟩
    clear hB81; have hd := hA80; clear hA80
    refine am_if (fun hc92 => ?_) (fun hc92 => ?_)
    · rw [if_pos hc92] at hd
      refine am_steps ok_Mo_priceFault 1 (x' := (120, [some (.ref 22), some (.int q1), some (.long (s.2.2.2 29 j12)), none, some (.int (s.2.2.1 30 j12)), some (.int q64), none], [.int 0], h42, 0, 0)) rfl (Nat.le_of_ble_eq_true rfl) (Nat.le_of_ble_eq_true rfl) ?_
      cases hd; exact K79 
    · rw [if_neg hc92] at hd
      refine am_steps ok_Mo_priceFault 2 (x' := (120, [some (.ref 22), some (.int q1), some (.long (s.2.2.2 29 j12)), none, some (.int (s.2.2.1 30 j12)), some (.int q64), none], [.int 1], h42, 0, 0)) rfl (Nat.le_of_ble_eq_true rfl) (Nat.le_of_ble_eq_true rfl) ?_
      cases hd; exact K79 
  · rw [if_neg hc15] at hd
    refine am_steps ok_Mo_priceFault 1 (x' := (18, [some (.ref 22), some (.int q1), none, none, none, none, none], [.int 8], h0, 0, 0)) rfl (Nat.le_of_ble_eq_true rfl) (Nat.le_of_ble_eq_true rfl) ?_
    cases hd; exact am_ret ok_Mo_priceFault rfl (Nat.le_of_ble_eq_true rfl) (Nat.le_of_ble_eq_true rfl) ⟨rfl, hM, (mF.rf)⟩
def d_Mo_floor (a : Int32) (s : mS) : Option (Int64) := if (a : Int32) < 16384 then (if ¬ ((a - a / 64 * 64) : Int32) = (s.1 16) then ((am_ix (a - a / 64 * 64) 64).bind fun j3 => (if ((s.2.2.1 28 j3) : Int32) = 0 then ((am_ix a 16384).bind fun j7 => (some (s.2.2.2 32 j7))) else (some 0))) else ((d_Mo_credit (a / 64) s).bind fun q10 => (some (-q10)))) else (some 0)
set_option maxHeartbeats 4000000 in
set_option maxRecDepth 100000 in
theorem k_Mo_floor (a : Int32) (s : mS) (h0 : am_H) (hM : RM s h0) (q : Int64) (hd : d_Mo_floor a s = some q) : am_Me am_Pr none 2 57 0 0 52 [.ref 22, .int a] h0 (am_is (some (.long q)) h0) := by
  refine am_enter (d := hd_Mo_floor) rfl (by decide +kernel) (Nat.le_of_ble_eq_true rfl) ?_
  show am_S _ _ _ _ _ _ _ (0, [some (.ref 22), some (.int a), none], [], h0, 0, 0) _
  unfold d_Mo_floor at hd
  refine am_steps ok_Mo_floor 3 (x' := (if (a : Int32) < 16384 then 9 else 7, [some (.ref 22), some (.int a), none], [], h0, 0, 0)) rfl (Nat.le_of_ble_eq_true rfl) (Nat.le_of_ble_eq_true rfl) ?_
  refine am_if (fun hc1 => ?_) (fun hc1 => ?_)
  · rw [if_pos hc1] at hd
    refine am_steps ok_Mo_floor 2 (x' := (12, [some (.ref 22), some (.int a), none], [.int 64, .int a], h0, 0, 0)) rfl (Nat.le_of_ble_eq_true rfl) (Nat.le_of_ble_eq_true rfl) ?_
    refine ar_irem ok_Mo_floor rfl (by decide +kernel) (w := (a - a / 64 * 64)) rfl (pc' := 13) rfl (Nat.le_of_ble_eq_true rfl) (Nat.le_of_ble_eq_true rfl) ?_
    refine am_steps ok_Mo_floor 3 (x' := (16, [some (.ref 22), some (.int a), some (.int (a - a / 64 * 64))], [.ref 22, .int (a - a / 64 * 64)], h0, 0, 0)) rfl (Nat.le_of_ble_eq_true rfl) (Nat.le_of_ble_eq_true rfl) ?_
    refine mr_get ok_Mo_floor rfl hM (v := .int (s.1 16)) rfl (pc' := 19) rfl (Nat.le_of_ble_eq_true rfl) (Nat.le_of_ble_eq_true rfl) ?_
    refine am_steps ok_Mo_floor 1 (x' := (if ¬ ((a - a / 64 * 64) : Int32) = (s.1 16) then 34 else 22, [some (.ref 22), some (.int a), some (.int (a - a / 64 * 64))], [], h0, 0, 0)) rfl (Nat.le_of_ble_eq_true rfl) (Nat.le_of_ble_eq_true rfl) ?_
    refine am_if (fun hc2 => ?_) (fun hc2 => ?_)
    · rw [if_pos hc2] at hd
      refine am_steps ok_Mo_floor 1 (x' := (35, [some (.ref 22), some (.int a), some (.int (a - a / 64 * 64))], [.ref 22], h0, 0, 0)) rfl (Nat.le_of_ble_eq_true rfl) (Nat.le_of_ble_eq_true rfl) ?_
      refine mr_get ok_Mo_floor rfl hM (v := .ref 28) rfl (pc' := 38) rfl (Nat.le_of_ble_eq_true rfl) (Nat.le_of_ble_eq_true rfl) ?_
      refine am_steps ok_Mo_floor 1 (x' := (39, [some (.ref 22), some (.int a), some (.int (a - a / 64 * 64))], [.int (a - a / 64 * 64), .ref 28], h0, 0, 0)) rfl (Nat.le_of_ble_eq_true rfl) (Nat.le_of_ble_eq_true rfl) ?_
      obtain ⟨j3, hx4, hd5⟩ := Option.bind_eq_some_iff.mp hd; clear hd; have hd := hd5; clear hd5
      refine mr_bald ok_Mo_floor rfl hM (N := 64) (by decide) (Or.inr rfl) hx4 (pc' := 40) rfl (Nat.le_of_ble_eq_true rfl) (Nat.le_of_ble_eq_true rfl) ?_
      refine am_steps ok_Mo_floor 1 (x' := (if ((s.2.2.1 28 j3) : Int32) = 0 then 47 else 43, [some (.ref 22), some (.int a), some (.int (a - a / 64 * 64))], [], h0, 0, 0)) rfl (Nat.le_of_ble_eq_true rfl) (Nat.le_of_ble_eq_true rfl) ?_
      refine am_if (fun hc6 => ?_) (fun hc6 => ?_)
      · rw [if_pos hc6] at hd
        refine am_steps ok_Mo_floor 1 (x' := (48, [some (.ref 22), some (.int a), some (.int (a - a / 64 * 64))], [.ref 22], h0, 0, 0)) rfl (Nat.le_of_ble_eq_true rfl) (Nat.le_of_ble_eq_true rfl) ?_
        refine mr_get ok_Mo_floor rfl hM (v := .ref 32) rfl (pc' := 51) rfl (Nat.le_of_ble_eq_true rfl) (Nat.le_of_ble_eq_true rfl) ?_
        refine am_steps ok_Mo_floor 1 (x' := (52, [some (.ref 22), some (.int a), some (.int (a - a / 64 * 64))], [.int a, .ref 32], h0, 0, 0)) rfl (Nat.le_of_ble_eq_true rfl) (Nat.le_of_ble_eq_true rfl) ?_
        obtain ⟨j7, hx8, hd9⟩ := Option.bind_eq_some_iff.mp hd; clear hd; have hd := hd9; clear hd9
        refine mr_lald ok_Mo_floor rfl hM (N := 16384) (by decide) hx8 (pc' := 53) rfl (Nat.le_of_ble_eq_true rfl) (Nat.le_of_ble_eq_true rfl) ?_
        cases hd; exact am_ret ok_Mo_floor rfl (Nat.le_of_ble_eq_true rfl) (Nat.le_of_ble_eq_true rfl) ⟨rfl, rfl⟩
      · rw [if_neg hc6] at hd
        refine am_steps ok_Mo_floor 2 (x' := (53, [some (.ref 22), some (.int a), some (.int (a - a / 64 * 64))], [.long 0], h0, 0, 0)) rfl (Nat.le_of_ble_eq_true rfl) (Nat.le_of_ble_eq_true rfl) ?_
        cases hd; exact am_ret ok_Mo_floor rfl (Nat.le_of_ble_eq_true rfl) (Nat.le_of_ble_eq_true rfl) ⟨rfl, rfl⟩
    · rw [if_neg hc2] at hd
      refine am_steps ok_Mo_floor 3 (x' := (26, [some (.ref 22), some (.int a), some (.int (a - a / 64 * 64))], [.int 64, .int a, .ref 22], h0, 0, 0)) rfl (Nat.le_of_ble_eq_true rfl) (Nat.le_of_ble_eq_true rfl) ?_
      refine ar_idiv ok_Mo_floor rfl (by decide +kernel) (w := (a / 64)) rfl (pc' := 27) rfl (Nat.le_of_ble_eq_true rfl) (Nat.le_of_ble_eq_true rfl) ?_
      obtain ⟨q10, hq11, hd12⟩ := Option.bind_eq_some_iff.mp hd; clear hd; have hd := hd12; clear hd12
      refine ar_cv ok_Mo_floor hk_Mo_credit rfl rfl (As := [.int (a / 64)]) (ad := 22) (rest := []) rfl rfl hM.1 (Nat.le_of_ble_eq_true rfl) (k_Mo_credit (a / 64) s h0 hM q10 hq11) (Nat.le_of_ble_eq_true rfl) (Nat.le_of_ble_eq_true rfl) (Nat.le_of_ble_eq_true rfl) (Nat.le_of_ble_eq_true rfl) (pc' := 30) rfl (fun r13 h15 z14 => ?_)
      obtain ⟨z19, z20⟩ := z14; subst z19; rw [z20]
      show am_S _ _ _ _ _ _ _ (30, [some (.ref 22), some (.int a), some (.int (a - a / 64 * 64))], [.long q10], h0, 0, 0) _
      refine am_steps ok_Mo_floor 2 (x' := (53, [some (.ref 22), some (.int a), some (.int (a - a / 64 * 64))], [.long (-q10)], h0, 0, 0)) rfl (Nat.le_of_ble_eq_true rfl) (Nat.le_of_ble_eq_true rfl) ?_
      cases hd; exact am_ret ok_Mo_floor rfl (Nat.le_of_ble_eq_true rfl) (Nat.le_of_ble_eq_true rfl) ⟨rfl, rfl⟩
  · rw [if_neg hc1] at hd
    refine am_steps ok_Mo_floor 1 (x' := (8, [some (.ref 22), some (.int a), none], [.long 0], h0, 0, 0)) rfl (Nat.le_of_ble_eq_true rfl) (Nat.le_of_ble_eq_true rfl) ?_
    cases hd; exact am_ret ok_Mo_floor rfl (Nat.le_of_ble_eq_true rfl) (Nat.le_of_ble_eq_true rfl) ⟨rfl, rfl⟩
def d_Mo_bankFault  (s : mS) : Option (Int32) := (d_Mo_assetAt 15 s).bind fun q1 => ((d_Mo_memberAt 18 s).bind fun q12 => ((d_Mo_number 22 15 s).bind fun q23 => (if (q12 : Int32) = 0 then (some 8) else (if ¬ ((lg_cmp q23 0) : Int32) = 0 then (if ¬ ((s.1 4) : Int32) = 3 then ((am_ix ((64 * q12) + q1) 16384).bind fun j37 => ((d_Mo_floor ((64 * q12) + q1) s).bind fun q40 => (if (0 : Int32) ≤ (lg_cmp ((s.2.2.2 31 j37) - q23) q40) then (some 0) else (some 9)))) else ((am_ix q1 16384).bind fun j52 => (if (0 : Int32) ≤ (lg_cmp ((s.2.2.2 31 j52) - q23) (Int64.ofNat 14446744073709551616)) then (some 0) else (some 10)))) else (some 8)))))
set_option maxHeartbeats 4000000 in
set_option maxRecDepth 100000 in
theorem k_Mo_bankFault  (s : mS) (h0 : am_H) (hM : RM s h0) (q : Int32) (hd : d_Mo_bankFault  s = some q) : am_Me am_Pr none 3 79 0 0 44 [.ref 22] h0 (am_is (some (.int q)) h0) := by
  refine am_enter (d := hd_Mo_bankFault) rfl (by decide +kernel) (Nat.le_of_ble_eq_true rfl) ?_
  show am_S _ _ _ _ _ _ _ (0, [some (.ref 22), none, none, none, none], [], h0, 0, 0) _
  unfold d_Mo_bankFault at hd
  refine am_steps ok_Mo_bankFault 2 (x' := (3, [some (.ref 22), none, none, none, none], [.int 15, .ref 22], h0, 0, 0)) rfl (Nat.le_of_ble_eq_true rfl) (Nat.le_of_ble_eq_true rfl) ?_
  obtain ⟨q1, hq2, hd3⟩ := Option.bind_eq_some_iff.mp hd; clear hd; have hd := hd3; clear hd3
  refine ar_cv ok_Mo_bankFault hk_Mo_assetAt rfl rfl (As := [.int 15]) (ad := 22) (rest := []) rfl rfl hM.1 (Nat.le_of_ble_eq_true rfl) (k_Mo_assetAt 15 s h0 hM q1 hq2) (Nat.le_of_ble_eq_true rfl) (Nat.le_of_ble_eq_true rfl) (Nat.le_of_ble_eq_true rfl) (Nat.le_of_ble_eq_true rfl) (pc' := 6) rfl (fun r4 h6 z5 => ?_)
  obtain ⟨z10, z11⟩ := z5; subst z10; rw [z11]
  show am_S _ _ _ _ _ _ _ (6, [some (.ref 22), none, none, none, none], [.int q1], h0, 0, 0) _
  refine am_steps ok_Mo_bankFault 3 (x' := (10, [some (.ref 22), some (.int q1), none, none, none], [.int 18, .ref 22], h0, 0, 0)) rfl (Nat.le_of_ble_eq_true rfl) (Nat.le_of_ble_eq_true rfl) ?_
  obtain ⟨q12, hq13, hd14⟩ := Option.bind_eq_some_iff.mp hd; clear hd; have hd := hd14; clear hd14
  refine ar_cv ok_Mo_bankFault hk_Mo_memberAt rfl rfl (As := [.int 18]) (ad := 22) (rest := []) rfl rfl hM.1 (Nat.le_of_ble_eq_true rfl) (k_Mo_memberAt 18 s h0 hM q12 hq13) (Nat.le_of_ble_eq_true rfl) (Nat.le_of_ble_eq_true rfl) (Nat.le_of_ble_eq_true rfl) (Nat.le_of_ble_eq_true rfl) (pc' := 13) rfl (fun r15 h17 z16 => ?_)
  obtain ⟨z21, z22⟩ := z16; subst z21; rw [z22]
  show am_S _ _ _ _ _ _ _ (13, [some (.ref 22), some (.int q1), none, none, none], [.int q12], h0, 0, 0) _
  refine am_steps ok_Mo_bankFault 4 (x' := (19, [some (.ref 22), some (.int q1), some (.int q12), none, none], [.int 15, .int 22, .ref 22], h0, 0, 0)) rfl (Nat.le_of_ble_eq_true rfl) (Nat.le_of_ble_eq_true rfl) ?_
  obtain ⟨q23, hq24, hd25⟩ := Option.bind_eq_some_iff.mp hd; clear hd; have hd := hd25; clear hd25
  refine ar_cv ok_Mo_bankFault hk_Mo_number rfl rfl (As := [.int 22, .int 15]) (ad := 22) (rest := []) rfl rfl hM.1 (Nat.le_of_ble_eq_true rfl) (k_Mo_number 22 15 s h0 hM q23 hq24) (Nat.le_of_ble_eq_true rfl) (Nat.le_of_ble_eq_true rfl) (Nat.le_of_ble_eq_true rfl) (Nat.le_of_ble_eq_true rfl) (pc' := 22) rfl (fun r26 h28 z27 => ?_)
  obtain ⟨z32, z33⟩ := z27; subst z32; rw [z33]
  show am_S _ _ _ _ _ _ _ (22, [some (.ref 22), some (.int q1), some (.int q12), none, none], [.long q23], h0, 0, 0) _
  refine am_steps ok_Mo_bankFault 3 (x' := (if (q12 : Int32) = 0 then 33 else 27, [some (.ref 22), some (.int q1), some (.int q12), some (.long q23), none], [], h0, 0, 0)) rfl (Nat.le_of_ble_eq_true rfl) (Nat.le_of_ble_eq_true rfl) ?_
  refine am_if (fun hc34 => ?_) (fun hc34 => ?_)
  · rw [if_pos hc34] at hd
    refine am_steps ok_Mo_bankFault 1 (x' := (35, [some (.ref 22), some (.int q1), some (.int q12), some (.long q23), none], [.int 8], h0, 0, 0)) rfl (Nat.le_of_ble_eq_true rfl) (Nat.le_of_ble_eq_true rfl) ?_
    cases hd; exact am_ret ok_Mo_bankFault rfl (Nat.le_of_ble_eq_true rfl) (Nat.le_of_ble_eq_true rfl) ⟨rfl, rfl⟩
  · rw [if_neg hc34] at hd
    refine am_steps ok_Mo_bankFault 4 (x' := (if ¬ ((lg_cmp q23 0) : Int32) = 0 then 36 else 33, [some (.ref 22), some (.int q1), some (.int q12), some (.long q23), none], [], h0, 0, 0)) rfl (Nat.le_of_ble_eq_true rfl) (Nat.le_of_ble_eq_true rfl) ?_
    refine am_if (fun hc35 => ?_) (fun hc35 => ?_)
    · rw [if_pos hc35] at hd
      refine am_steps ok_Mo_bankFault 1 (x' := (37, [some (.ref 22), some (.int q1), some (.int q12), some (.long q23), none], [.ref 22], h0, 0, 0)) rfl (Nat.le_of_ble_eq_true rfl) (Nat.le_of_ble_eq_true rfl) ?_
      refine mr_get ok_Mo_bankFault rfl hM (v := .int (s.1 4)) rfl (pc' := 40) rfl (Nat.le_of_ble_eq_true rfl) (Nat.le_of_ble_eq_true rfl) ?_
      refine am_steps ok_Mo_bankFault 2 (x' := (if ¬ ((s.1 4) : Int32) = 3 then 66 else 44, [some (.ref 22), some (.int q1), some (.int q12), some (.long q23), none], [], h0, 0, 0)) rfl (Nat.le_of_ble_eq_true rfl) (Nat.le_of_ble_eq_true rfl) ?_
      refine am_if (fun hc36 => ?_) (fun hc36 => ?_)
      · rw [if_pos hc36] at hd
        refine am_steps ok_Mo_bankFault 1 (x' := (67, [some (.ref 22), some (.int q1), some (.int q12), some (.long q23), none], [.ref 22], h0, 0, 0)) rfl (Nat.le_of_ble_eq_true rfl) (Nat.le_of_ble_eq_true rfl) ?_
        refine mr_get ok_Mo_bankFault rfl hM (v := .ref 31) rfl (pc' := 70) rfl (Nat.le_of_ble_eq_true rfl) (Nat.le_of_ble_eq_true rfl) ?_
        refine am_steps ok_Mo_bankFault 5 (x' := (76, [some (.ref 22), some (.int q1), some (.int q12), some (.long q23), none], [.int ((64 * q12) + q1), .ref 31], h0, 0, 0)) rfl (Nat.le_of_ble_eq_true rfl) (Nat.le_of_ble_eq_true rfl) ?_
        obtain ⟨j37, hx38, hd39⟩ := Option.bind_eq_some_iff.mp hd; clear hd; have hd := hd39; clear hd39
        refine mr_lald ok_Mo_bankFault rfl hM (N := 16384) (by decide) hx38 (pc' := 77) rfl (Nat.le_of_ble_eq_true rfl) (Nat.le_of_ble_eq_true rfl) ?_
        refine am_steps ok_Mo_bankFault 8 (x' := (86, [some (.ref 22), some (.int q1), some (.int q12), some (.long q23), none], [.int ((64 * q12) + q1), .ref 22, .long ((s.2.2.2 31 j37) - q23)], h0, 0, 0)) rfl (Nat.le_of_ble_eq_true rfl) (Nat.le_of_ble_eq_true rfl) ?_
        obtain ⟨q40, hq41, hd42⟩ := Option.bind_eq_some_iff.mp hd; clear hd; have hd := hd42; clear hd42
        refine ar_cv ok_Mo_bankFault hk_Mo_floor rfl rfl (As := [.int ((64 * q12) + q1)]) (ad := 22) (rest := [.long ((s.2.2.2 31 j37) - q23)]) rfl rfl hM.1 (Nat.le_of_ble_eq_true rfl) (k_Mo_floor ((64 * q12) + q1) s h0 hM q40 hq41) (Nat.le_of_ble_eq_true rfl) (Nat.le_of_ble_eq_true rfl) (Nat.le_of_ble_eq_true rfl) (Nat.le_of_ble_eq_true rfl) (pc' := 89) rfl (fun r43 h45 z44 => ?_)
        obtain ⟨z49, z50⟩ := z44; subst z49; rw [z50]
        show am_S _ _ _ _ _ _ _ (89, [some (.ref 22), some (.int q1), some (.int q12), some (.long q23), none], [.long q40, .long ((s.2.2.2 31 j37) - q23)], h0, 0, 0) _
        refine am_steps ok_Mo_bankFault 2 (x' := (if (0 : Int32) ≤ (lg_cmp ((s.2.2.2 31 j37) - q23) q40) then 98 else 93, [some (.ref 22), some (.int q1), some (.int q12), some (.long q23), none], [], h0, 0, 0)) rfl (Nat.le_of_ble_eq_true rfl) (Nat.le_of_ble_eq_true rfl) ?_
        refine am_if (fun hc51 => ?_) (fun hc51 => ?_)
        · rw [if_pos hc51] at hd
          refine am_steps ok_Mo_bankFault 1 (x' := (99, [some (.ref 22), some (.int q1), some (.int q12), some (.long q23), none], [.int 0], h0, 0, 0)) rfl (Nat.le_of_ble_eq_true rfl) (Nat.le_of_ble_eq_true rfl) ?_
          cases hd; exact am_ret ok_Mo_bankFault rfl (Nat.le_of_ble_eq_true rfl) (Nat.le_of_ble_eq_true rfl) ⟨rfl, rfl⟩
        · rw [if_neg hc51] at hd
          refine am_steps ok_Mo_bankFault 2 (x' := (99, [some (.ref 22), some (.int q1), some (.int q12), some (.long q23), none], [.int 9], h0, 0, 0)) rfl (Nat.le_of_ble_eq_true rfl) (Nat.le_of_ble_eq_true rfl) ?_
          cases hd; exact am_ret ok_Mo_bankFault rfl (Nat.le_of_ble_eq_true rfl) (Nat.le_of_ble_eq_true rfl) ⟨rfl, rfl⟩
      · rw [if_neg hc36] at hd
        refine am_steps ok_Mo_bankFault 1 (x' := (45, [some (.ref 22), some (.int q1), some (.int q12), some (.long q23), none], [.ref 22], h0, 0, 0)) rfl (Nat.le_of_ble_eq_true rfl) (Nat.le_of_ble_eq_true rfl) ?_
        refine mr_get ok_Mo_bankFault rfl hM (v := .ref 31) rfl (pc' := 48) rfl (Nat.le_of_ble_eq_true rfl) (Nat.le_of_ble_eq_true rfl) ?_
        refine am_steps ok_Mo_bankFault 1 (x' := (49, [some (.ref 22), some (.int q1), some (.int q12), some (.long q23), none], [.int q1, .ref 31], h0, 0, 0)) rfl (Nat.le_of_ble_eq_true rfl) (Nat.le_of_ble_eq_true rfl) ?_
        obtain ⟨j52, hx53, hd54⟩ := Option.bind_eq_some_iff.mp hd; clear hd; have hd := hd54; clear hd54
        refine mr_lald ok_Mo_bankFault rfl hM (N := 16384) (by decide) hx53 (pc' := 50) rfl (Nat.le_of_ble_eq_true rfl) (Nat.le_of_ble_eq_true rfl) ?_
        refine am_steps ok_Mo_bankFault 5 (x' := (if (0 : Int32) ≤ (lg_cmp ((s.2.2.2 31 j52) - q23) (Int64.ofNat 14446744073709551616)) then 64 else 59, [some (.ref 22), some (.int q1), some (.int q12), some (.long q23), none], [], h0, 0, 0)) rfl (Nat.le_of_ble_eq_true rfl) (Nat.le_of_ble_eq_true rfl) ?_
        refine am_if (fun hc55 => ?_) (fun hc55 => ?_)
        · rw [if_pos hc55] at hd
          refine am_steps ok_Mo_bankFault 1 (x' := (65, [some (.ref 22), some (.int q1), some (.int q12), some (.long q23), none], [.int 0], h0, 0, 0)) rfl (Nat.le_of_ble_eq_true rfl) (Nat.le_of_ble_eq_true rfl) ?_
          cases hd; exact am_ret ok_Mo_bankFault rfl (Nat.le_of_ble_eq_true rfl) (Nat.le_of_ble_eq_true rfl) ⟨rfl, rfl⟩
        · rw [if_neg hc55] at hd
          refine am_steps ok_Mo_bankFault 2 (x' := (65, [some (.ref 22), some (.int q1), some (.int q12), some (.long q23), none], [.int 10], h0, 0, 0)) rfl (Nat.le_of_ble_eq_true rfl) (Nat.le_of_ble_eq_true rfl) ?_
          cases hd; exact am_ret ok_Mo_bankFault rfl (Nat.le_of_ble_eq_true rfl) (Nat.le_of_ble_eq_true rfl) ⟨rfl, rfl⟩
    · rw [if_neg hc35] at hd
      refine am_steps ok_Mo_bankFault 1 (x' := (35, [some (.ref 22), some (.int q1), some (.int q12), some (.long q23), none], [.int 8], h0, 0, 0)) rfl (Nat.le_of_ble_eq_true rfl) (Nat.le_of_ble_eq_true rfl) ?_
      cases hd; exact am_ret ok_Mo_bankFault rfl (Nat.le_of_ble_eq_true rfl) (Nat.le_of_ble_eq_true rfl) ⟨rfl, rfl⟩
def l_Mo_legsFault_2 : Nat → Int32 → mS → Option (Int32)
  | 0, _, _ => none
  | fu + 1, v1, s => (am_ix 16 400).bind fun j1 => (if (((s.2.2.1 24 j1) - 48) : Int32) ≤ v1 then (if ¬ ((s.1 31) : Int32) = 250 then (some 0) else (some 12)) else ((d_Mo_memberAt (17 + (26 * v1)) s).bind fun q6 => ((d_Mo_memberAt ((17 + (26 * v1)) + 4) s).bind fun q17 => (if (q6 : Int32) = 0 then (some 8) else (if (q17 : Int32) = 0 then (some 8) else (if (q6 : Int32) = q17 then (some 8) else ((d_Mo_number ((17 + (26 * v1)) + 11) 15 s).bind fun q31 => (if ¬ ((lg_cmp q31 0) : Int32) = 0 then (l_Mo_legsFault_2 fu (v1 + 1) s) else (some 8)))))))))
set_option maxHeartbeats 4000000 in
set_option maxRecDepth 100000 in
theorem L_Mo_legsFault_2 (s : mS) (h : am_H) (hM : RM s h) : ∀ (fu : Nat) (v1 : Int32) (q : Int32), l_Mo_legsFault_2 fu v1 s = some q → am_S am_Pr none 2 49 0 0 45 (2, [some (.ref 22), some (.int v1), none, none, none], [], h, 0, 0) (am_is (some (.int q)) h) := by
  intro fu
  induction fu with
  | zero => intro v1 q hd; cases hd
  | succ fu ih =>
    intro v1 q hd
    unfold l_Mo_legsFault_2 at hd
    refine am_steps ok_Mo_legsFault 2 (x' := (4, [some (.ref 22), some (.int v1), none, none, none], [.ref 22, .int v1], h, 0, 0)) rfl (Nat.le_of_ble_eq_true rfl) (Nat.le_of_ble_eq_true rfl) ?_
    refine mr_get ok_Mo_legsFault rfl hM (v := .ref 24) rfl (pc' := 7) rfl (Nat.le_of_ble_eq_true rfl) (Nat.le_of_ble_eq_true rfl) ?_
    refine am_steps ok_Mo_legsFault 1 (x' := (9, [some (.ref 22), some (.int v1), none, none, none], [.int 16, .ref 24, .int v1], h, 0, 0)) rfl (Nat.le_of_ble_eq_true rfl) (Nat.le_of_ble_eq_true rfl) ?_
    obtain ⟨j1, hx2, hd3⟩ := Option.bind_eq_some_iff.mp hd; clear hd; have hd := hd3; clear hd3
    refine mr_bald ok_Mo_legsFault rfl hM (N := 400) (by decide) (Or.inl rfl) hx2 (pc' := 10) rfl (Nat.le_of_ble_eq_true rfl) (Nat.le_of_ble_eq_true rfl) ?_
    refine am_steps ok_Mo_legsFault 3 (x' := (if (((s.2.2.1 24 j1) - 48) : Int32) ≤ v1 then 78 else 16, [some (.ref 22), some (.int v1), none, none, none], [], h, 0, 0)) rfl (Nat.le_of_ble_eq_true rfl) (Nat.le_of_ble_eq_true rfl) ?_
    refine am_if (fun hc4 => ?_) (fun hc4 => ?_)
    · rw [if_pos hc4] at hd
      refine am_steps ok_Mo_legsFault 1 (x' := (79, [some (.ref 22), some (.int v1), none, none, none], [.ref 22], h, 0, 0)) rfl (Nat.le_of_ble_eq_true rfl) (Nat.le_of_ble_eq_true rfl) ?_
      refine mr_get ok_Mo_legsFault rfl hM (v := .int (s.1 31)) rfl (pc' := 82) rfl (Nat.le_of_ble_eq_true rfl) (Nat.le_of_ble_eq_true rfl) ?_
      refine am_steps ok_Mo_legsFault 2 (x' := (if ¬ ((s.1 31) : Int32) = 250 then 93 else 88, [some (.ref 22), some (.int v1), none, none, none], [], h, 0, 0)) rfl (Nat.le_of_ble_eq_true rfl) (Nat.le_of_ble_eq_true rfl) ?_
      refine am_if (fun hc5 => ?_) (fun hc5 => ?_)
      · rw [if_pos hc5] at hd
        refine am_steps ok_Mo_legsFault 1 (x' := (94, [some (.ref 22), some (.int v1), none, none, none], [.int 0], h, 0, 0)) rfl (Nat.le_of_ble_eq_true rfl) (Nat.le_of_ble_eq_true rfl) ?_
        cases hd; exact am_ret ok_Mo_legsFault rfl (Nat.le_of_ble_eq_true rfl) (Nat.le_of_ble_eq_true rfl) ⟨rfl, rfl⟩
      · rw [if_neg hc5] at hd
        refine am_steps ok_Mo_legsFault 2 (x' := (94, [some (.ref 22), some (.int v1), none, none, none], [.int 12], h, 0, 0)) rfl (Nat.le_of_ble_eq_true rfl) (Nat.le_of_ble_eq_true rfl) ?_
        cases hd; exact am_ret ok_Mo_legsFault rfl (Nat.le_of_ble_eq_true rfl) (Nat.le_of_ble_eq_true rfl) ⟨rfl, rfl⟩
    · rw [if_neg hc4] at hd
      refine am_steps ok_Mo_legsFault 8 (x' := (26, [some (.ref 22), some (.int v1), some (.int (17 + (26 * v1))), none, none], [.int (17 + (26 * v1)), .ref 22], h, 0, 0)) rfl (Nat.le_of_ble_eq_true rfl) (Nat.le_of_ble_eq_true rfl) ?_
      obtain ⟨q6, hq7, hd8⟩ := Option.bind_eq_some_iff.mp hd; clear hd; have hd := hd8; clear hd8
      refine ar_cv ok_Mo_legsFault hk_Mo_memberAt rfl rfl (As := [.int (17 + (26 * v1))]) (ad := 22) (rest := []) rfl rfl hM.1 (Nat.le_of_ble_eq_true rfl) (k_Mo_memberAt (17 + (26 * v1)) s h hM q6 hq7) (Nat.le_of_ble_eq_true rfl) (Nat.le_of_ble_eq_true rfl) (Nat.le_of_ble_eq_true rfl) (Nat.le_of_ble_eq_true rfl) (pc' := 29) rfl (fun r9 h11 z10 => ?_)
      obtain ⟨z15, z16⟩ := z10; subst z15; rw [z16]
      show am_S _ _ _ _ _ _ _ (29, [some (.ref 22), some (.int v1), some (.int (17 + (26 * v1))), none, none], [.int q6], h, 0, 0) _
      refine am_steps ok_Mo_legsFault 5 (x' := (34, [some (.ref 22), some (.int v1), some (.int (17 + (26 * v1))), some (.int q6), none], [.int ((17 + (26 * v1)) + 4), .ref 22], h, 0, 0)) rfl (Nat.le_of_ble_eq_true rfl) (Nat.le_of_ble_eq_true rfl) ?_
      obtain ⟨q17, hq18, hd19⟩ := Option.bind_eq_some_iff.mp hd; clear hd; have hd := hd19; clear hd19
      refine ar_cv ok_Mo_legsFault hk_Mo_memberAt rfl rfl (As := [.int ((17 + (26 * v1)) + 4)]) (ad := 22) (rest := []) rfl rfl hM.1 (Nat.le_of_ble_eq_true rfl) (k_Mo_memberAt ((17 + (26 * v1)) + 4) s h hM q17 hq18) (Nat.le_of_ble_eq_true rfl) (Nat.le_of_ble_eq_true rfl) (Nat.le_of_ble_eq_true rfl) (Nat.le_of_ble_eq_true rfl) (pc' := 37) rfl (fun r20 h22 z21 => ?_)
      obtain ⟨z26, z27⟩ := z21; subst z26; rw [z27]
      show am_S _ _ _ _ _ _ _ (37, [some (.ref 22), some (.int v1), some (.int (17 + (26 * v1))), some (.int q6), none], [.int q17], h, 0, 0) _
      refine am_steps ok_Mo_legsFault 3 (x' := (if (q6 : Int32) = 0 then 69 else 43, [some (.ref 22), some (.int v1), some (.int (17 + (26 * v1))), some (.int q6), some (.int q17)], [], h, 0, 0)) rfl (Nat.le_of_ble_eq_true rfl) (Nat.le_of_ble_eq_true rfl) ?_
      refine am_if (fun hc28 => ?_) (fun hc28 => ?_)
      · rw [if_pos hc28] at hd
        refine am_steps ok_Mo_legsFault 1 (x' := (71, [some (.ref 22), some (.int v1), some (.int (17 + (26 * v1))), some (.int q6), some (.int q17)], [.int 8], h, 0, 0)) rfl (Nat.le_of_ble_eq_true rfl) (Nat.le_of_ble_eq_true rfl) ?_
        cases hd; exact am_ret ok_Mo_legsFault rfl (Nat.le_of_ble_eq_true rfl) (Nat.le_of_ble_eq_true rfl) ⟨rfl, rfl⟩
      · rw [if_neg hc28] at hd
        refine am_steps ok_Mo_legsFault 2 (x' := (if (q17 : Int32) = 0 then 69 else 48, [some (.ref 22), some (.int v1), some (.int (17 + (26 * v1))), some (.int q6), some (.int q17)], [], h, 0, 0)) rfl (Nat.le_of_ble_eq_true rfl) (Nat.le_of_ble_eq_true rfl) ?_
        refine am_if (fun hc29 => ?_) (fun hc29 => ?_)
        · rw [if_pos hc29] at hd
          refine am_steps ok_Mo_legsFault 1 (x' := (71, [some (.ref 22), some (.int v1), some (.int (17 + (26 * v1))), some (.int q6), some (.int q17)], [.int 8], h, 0, 0)) rfl (Nat.le_of_ble_eq_true rfl) (Nat.le_of_ble_eq_true rfl) ?_
          cases hd; exact am_ret ok_Mo_legsFault rfl (Nat.le_of_ble_eq_true rfl) (Nat.le_of_ble_eq_true rfl) ⟨rfl, rfl⟩
        · rw [if_neg hc29] at hd
          refine am_steps ok_Mo_legsFault 3 (x' := (if (q6 : Int32) = q17 then 69 else 54, [some (.ref 22), some (.int v1), some (.int (17 + (26 * v1))), some (.int q6), some (.int q17)], [], h, 0, 0)) rfl (Nat.le_of_ble_eq_true rfl) (Nat.le_of_ble_eq_true rfl) ?_
          refine am_if (fun hc30 => ?_) (fun hc30 => ?_)
          · rw [if_pos hc30] at hd
            refine am_steps ok_Mo_legsFault 1 (x' := (71, [some (.ref 22), some (.int v1), some (.int (17 + (26 * v1))), some (.int q6), some (.int q17)], [.int 8], h, 0, 0)) rfl (Nat.le_of_ble_eq_true rfl) (Nat.le_of_ble_eq_true rfl) ?_
            cases hd; exact am_ret ok_Mo_legsFault rfl (Nat.le_of_ble_eq_true rfl) (Nat.le_of_ble_eq_true rfl) ⟨rfl, rfl⟩
          · rw [if_neg hc30] at hd
            refine am_steps ok_Mo_legsFault 5 (x' := (61, [some (.ref 22), some (.int v1), some (.int (17 + (26 * v1))), some (.int q6), some (.int q17)], [.int 15, .int ((17 + (26 * v1)) + 11), .ref 22], h, 0, 0)) rfl (Nat.le_of_ble_eq_true rfl) (Nat.le_of_ble_eq_true rfl) ?_
            obtain ⟨q31, hq32, hd33⟩ := Option.bind_eq_some_iff.mp hd; clear hd; have hd := hd33; clear hd33
            refine ar_cv ok_Mo_legsFault hk_Mo_number rfl rfl (As := [.int ((17 + (26 * v1)) + 11), .int 15]) (ad := 22) (rest := []) rfl rfl hM.1 (Nat.le_of_ble_eq_true rfl) (k_Mo_number ((17 + (26 * v1)) + 11) 15 s h hM q31 hq32) (Nat.le_of_ble_eq_true rfl) (Nat.le_of_ble_eq_true rfl) (Nat.le_of_ble_eq_true rfl) (Nat.le_of_ble_eq_true rfl) (pc' := 64) rfl (fun r34 h36 z35 => ?_)
            obtain ⟨z40, z41⟩ := z35; subst z40; rw [z41]
            show am_S _ _ _ _ _ _ _ (64, [some (.ref 22), some (.int v1), some (.int (17 + (26 * v1))), some (.int q6), some (.int q17)], [.long q31], h, 0, 0) _
            refine am_steps ok_Mo_legsFault 3 (x' := (if ¬ ((lg_cmp q31 0) : Int32) = 0 then 72 else 69, [some (.ref 22), some (.int v1), some (.int (17 + (26 * v1))), some (.int q6), some (.int q17)], [], h, 0, 0)) rfl (Nat.le_of_ble_eq_true rfl) (Nat.le_of_ble_eq_true rfl) ?_
            refine am_if (fun hc42 => ?_) (fun hc42 => ?_)
            · rw [if_pos hc42] at hd
              refine am_steps ok_Mo_legsFault 2 (x' := (2, [some (.ref 22), some (.int (v1 + 1)), some (.int (17 + (26 * v1))), some (.int q6), some (.int q17)], [], h, 0, 0)) rfl (Nat.le_of_ble_eq_true rfl) (Nat.le_of_ble_eq_true rfl) ?_
              refine am_drop 2 ?_
              refine am_drop 3 ?_
              refine am_drop 4 ?_
              exact ih (v1 + 1) q hd
            · rw [if_neg hc42] at hd
              refine am_steps ok_Mo_legsFault 1 (x' := (71, [some (.ref 22), some (.int v1), some (.int (17 + (26 * v1))), some (.int q6), some (.int q17)], [.int 8], h, 0, 0)) rfl (Nat.le_of_ble_eq_true rfl) (Nat.le_of_ble_eq_true rfl) ?_
              cases hd; exact am_ret ok_Mo_legsFault rfl (Nat.le_of_ble_eq_true rfl) (Nat.le_of_ble_eq_true rfl) ⟨rfl, rfl⟩
def d_Mo_legsFault  (s : mS) : Option (Int32) := l_Mo_legsFault_2 100000 0 s
set_option maxHeartbeats 4000000 in
set_option maxRecDepth 100000 in
theorem k_Mo_legsFault  (s : mS) (h0 : am_H) (hM : RM s h0) (q : Int32) (hd : d_Mo_legsFault  s = some q) : am_Me am_Pr none 2 49 0 0 45 [.ref 22] h0 (am_is (some (.int q)) h0) := by
  refine am_enter (d := hd_Mo_legsFault) rfl (by decide +kernel) (Nat.le_of_ble_eq_true rfl) ?_
  show am_S _ _ _ _ _ _ _ (0, [some (.ref 22), none, none, none, none], [], h0, 0, 0) _
  unfold d_Mo_legsFault at hd
  refine am_steps ok_Mo_legsFault 2 (x' := (2, [some (.ref 22), some (.int 0), none, none, none], [], h0, 0, 0)) rfl (Nat.le_of_ble_eq_true rfl) (Nat.le_of_ble_eq_true rfl) ?_
  exact L_Mo_legsFault_2 s h0 hM 100000 0 q hd
def l_Mo_openOf_3 : Nat → Int32 → Int64 → Int32 → mS → Option (Int32)
  | 0, _, _, _, _ => none
  | fu + 1, v1, v2, v4, s => if ((s.1 31) : Int32) ≤ v4 then (some (-1)) else ((am_ix v4 250).bind fun j2 => (if ¬ ((s.2.2.1 43 j2) : Int32) = v1 then (l_Mo_openOf_3 fu v1 v2 (v4 + 1) s) else (if ¬ ((lg_cmp (s.2.2.2 46 j2) v2) : Int32) = 0 then (l_Mo_openOf_3 fu v1 v2 (v4 + 1) s) else (some v4))))
set_option maxHeartbeats 4000000 in
set_option maxRecDepth 100000 in
theorem L_Mo_openOf_3 (s : mS) (h : am_H) (hM : RM s h) : ∀ (fu : Nat) (v1 : Int32) (v2 : Int64) (v4 : Int32) (q : Int32), l_Mo_openOf_3 fu v1 v2 v4 s = some q → am_S am_Pr none 0 0 0 0 55 (3, [some (.ref 22), some (.int v1), some (.long v2), none, some (.int v4)], [], h, 0, 0) (am_is (some (.int q)) h) := by
  intro fu
  induction fu with
  | zero => intro v1 v2 v4 q hd; cases hd
  | succ fu ih =>
    intro v1 v2 v4 q hd
    unfold l_Mo_openOf_3 at hd
    refine am_steps ok_Mo_openOf 2 (x' := (6, [some (.ref 22), some (.int v1), some (.long v2), none, some (.int v4)], [.ref 22, .int v4], h, 0, 0)) rfl (Nat.le_of_ble_eq_true rfl) (Nat.le_of_ble_eq_true rfl) ?_
    refine mr_get ok_Mo_openOf rfl hM (v := .int (s.1 31)) rfl (pc' := 9) rfl (Nat.le_of_ble_eq_true rfl) (Nat.le_of_ble_eq_true rfl) ?_
    refine am_steps ok_Mo_openOf 1 (x' := (if ((s.1 31) : Int32) ≤ v4 then 44 else 12, [some (.ref 22), some (.int v1), some (.long v2), none, some (.int v4)], [], h, 0, 0)) rfl (Nat.le_of_ble_eq_true rfl) (Nat.le_of_ble_eq_true rfl) ?_
    refine am_if (fun hc1 => ?_) (fun hc1 => ?_)
    · rw [if_pos hc1] at hd
      refine am_steps ok_Mo_openOf 1 (x' := (45, [some (.ref 22), some (.int v1), some (.long v2), none, some (.int v4)], [.int (-1)], h, 0, 0)) rfl (Nat.le_of_ble_eq_true rfl) (Nat.le_of_ble_eq_true rfl) ?_
      cases hd; exact am_ret ok_Mo_openOf rfl (Nat.le_of_ble_eq_true rfl) (Nat.le_of_ble_eq_true rfl) ⟨rfl, rfl⟩
    · rw [if_neg hc1] at hd
      refine am_steps ok_Mo_openOf 1 (x' := (13, [some (.ref 22), some (.int v1), some (.long v2), none, some (.int v4)], [.ref 22], h, 0, 0)) rfl (Nat.le_of_ble_eq_true rfl) (Nat.le_of_ble_eq_true rfl) ?_
      refine mr_get ok_Mo_openOf rfl hM (v := .ref 43) rfl (pc' := 16) rfl (Nat.le_of_ble_eq_true rfl) (Nat.le_of_ble_eq_true rfl) ?_
      refine am_steps ok_Mo_openOf 1 (x' := (18, [some (.ref 22), some (.int v1), some (.long v2), none, some (.int v4)], [.int v4, .ref 43], h, 0, 0)) rfl (Nat.le_of_ble_eq_true rfl) (Nat.le_of_ble_eq_true rfl) ?_
      obtain ⟨j2, hx3, hd4⟩ := Option.bind_eq_some_iff.mp hd; clear hd; have hd := hd4; clear hd4
      refine mr_iald ok_Mo_openOf rfl hM (N := 250) (by decide) hx3 (pc' := 19) rfl (Nat.le_of_ble_eq_true rfl) (Nat.le_of_ble_eq_true rfl) ?_
      refine am_steps ok_Mo_openOf 2 (x' := (if ¬ ((s.2.2.1 43 j2) : Int32) = v1 then 38 else 23, [some (.ref 22), some (.int v1), some (.long v2), none, some (.int v4)], [], h, 0, 0)) rfl (Nat.le_of_ble_eq_true rfl) (Nat.le_of_ble_eq_true rfl) ?_
      refine am_if (fun hc5 => ?_) (fun hc5 => ?_)
      · rw [if_pos hc5] at hd
        refine am_steps ok_Mo_openOf 2 (x' := (3, [some (.ref 22), some (.int v1), some (.long v2), none, some (.int (v4 + 1))], [], h, 0, 0)) rfl (Nat.le_of_ble_eq_true rfl) (Nat.le_of_ble_eq_true rfl) ?_
        exact ih v1 v2 (v4 + 1) q hd
      · rw [if_neg hc5] at hd
        refine am_steps ok_Mo_openOf 1 (x' := (24, [some (.ref 22), some (.int v1), some (.long v2), none, some (.int v4)], [.ref 22], h, 0, 0)) rfl (Nat.le_of_ble_eq_true rfl) (Nat.le_of_ble_eq_true rfl) ?_
        refine mr_get ok_Mo_openOf rfl hM (v := .ref 46) rfl (pc' := 27) rfl (Nat.le_of_ble_eq_true rfl) (Nat.le_of_ble_eq_true rfl) ?_
        refine am_steps ok_Mo_openOf 1 (x' := (29, [some (.ref 22), some (.int v1), some (.long v2), none, some (.int v4)], [.int v4, .ref 46], h, 0, 0)) rfl (Nat.le_of_ble_eq_true rfl) (Nat.le_of_ble_eq_true rfl) ?_
        refine mr_lald ok_Mo_openOf rfl hM (N := 250) (by decide) hx3 (pc' := 30) rfl (Nat.le_of_ble_eq_true rfl) (Nat.le_of_ble_eq_true rfl) ?_
        refine am_steps ok_Mo_openOf 3 (x' := (if ¬ ((lg_cmp (s.2.2.2 46 j2) v2) : Int32) = 0 then 38 else 35, [some (.ref 22), some (.int v1), some (.long v2), none, some (.int v4)], [], h, 0, 0)) rfl (Nat.le_of_ble_eq_true rfl) (Nat.le_of_ble_eq_true rfl) ?_
        refine am_if (fun hc6 => ?_) (fun hc6 => ?_)
        · rw [if_pos hc6] at hd
          refine am_steps ok_Mo_openOf 2 (x' := (3, [some (.ref 22), some (.int v1), some (.long v2), none, some (.int (v4 + 1))], [], h, 0, 0)) rfl (Nat.le_of_ble_eq_true rfl) (Nat.le_of_ble_eq_true rfl) ?_
          exact ih v1 v2 (v4 + 1) q hd
        · rw [if_neg hc6] at hd
          refine am_steps ok_Mo_openOf 1 (x' := (37, [some (.ref 22), some (.int v1), some (.long v2), none, some (.int v4)], [.int v4], h, 0, 0)) rfl (Nat.le_of_ble_eq_true rfl) (Nat.le_of_ble_eq_true rfl) ?_
          cases hd; exact am_ret ok_Mo_openOf rfl (Nat.le_of_ble_eq_true rfl) (Nat.le_of_ble_eq_true rfl) ⟨rfl, rfl⟩
def d_Mo_openOf (a : Int32) (b : Int64) (s : mS) : Option (Int32) := l_Mo_openOf_3 100000 a b 0 s
set_option maxHeartbeats 4000000 in
set_option maxRecDepth 100000 in
theorem k_Mo_openOf (a : Int32) (b : Int64) (s : mS) (h0 : am_H) (hM : RM s h0) (q : Int32) (hd : d_Mo_openOf a b s = some q) : am_Me am_Pr none 0 0 0 0 55 [.ref 22, .int a, .long b] h0 (am_is (some (.int q)) h0) := by
  refine am_enter (d := hd_Mo_openOf) rfl (by decide +kernel) (Nat.le_of_ble_eq_true rfl) ?_
  show am_S _ _ _ _ _ _ _ (0, [some (.ref 22), some (.int a), some (.long b), none, none], [], h0, 0, 0) _
  unfold d_Mo_openOf at hd
  refine am_steps ok_Mo_openOf 2 (x' := (3, [some (.ref 22), some (.int a), some (.long b), none, some (.int 0)], [], h0, 0, 0)) rfl (Nat.le_of_ble_eq_true rfl) (Nat.le_of_ble_eq_true rfl) ?_
  exact L_Mo_openOf_3 s h0 hM 100000 a b 0 q hd
def l_Mo_confirmFault_30 : Nat → Int32 → Int32 → Int32 → mS → Option (Int32)
  | 0, _, _, _, _ => none
  | fu + 1, v1, v2, v3, s => (am_ix v1 250).bind fun j35 => (if ((s.2.2.1 45 j35) : Int32) ≤ v3 then (some v2) else ((if ¬ (v2 : Int32) = 0 then (some 1) else ((am_ix ((4 * v1) + v3) 1000).bind fun j44 => (if ¬ ((s.2.2.1 50 j44) : Int32) = (s.1 5) then (some 0) else (if ¬ ((s.2.2.1 54 j44) : Int32) = 0 then (some 0) else (some 1))))).bind fun (u39 : Int32) => (l_Mo_confirmFault_30 fu v1 u39 (v3 + 1) s)))
set_option maxHeartbeats 4000000 in
set_option maxRecDepth 100000 in
theorem L_Mo_confirmFault_30 {Q : Option Value → am_H → Prop} (s : mS) (h : am_H) (hM : RM s h) : ∀ (fu : Nat) (v1 : Int32) (v2 : Int32) (v3 : Int32) (q : Int32), l_Mo_confirmFault_30 fu v1 v2 v3 s = some q → am_S am_Pr none 2 49 0 0 46 (86, [some (.ref 22), some (.int v1), some (.int q), none], [], h, 0, 0) Q → am_S am_Pr none 2 49 0 0 46 (30, [some (.ref 22), some (.int v1), some (.int v2), some (.int v3)], [], h, 0, 0) Q := by
  intro fu
  induction fu with
  | zero => intro v1 v2 v3 q hd; cases hd
  | succ fu ih =>
    intro v1 v2 v3 q hd kk
    unfold l_Mo_confirmFault_30 at hd
    refine am_steps ok_Mo_confirmFault 2 (x' := (32, [some (.ref 22), some (.int v1), some (.int v2), some (.int v3)], [.ref 22, .int v3], h, 0, 0)) rfl (Nat.le_of_ble_eq_true rfl) (Nat.le_of_ble_eq_true rfl) ?_
    refine mr_get ok_Mo_confirmFault rfl hM (v := .ref 45) rfl (pc' := 35) rfl (Nat.le_of_ble_eq_true rfl) (Nat.le_of_ble_eq_true rfl) ?_
    refine am_steps ok_Mo_confirmFault 1 (x' := (36, [some (.ref 22), some (.int v1), some (.int v2), some (.int v3)], [.int v1, .ref 45, .int v3], h, 0, 0)) rfl (Nat.le_of_ble_eq_true rfl) (Nat.le_of_ble_eq_true rfl) ?_
    obtain ⟨j35, hx36, hd37⟩ := Option.bind_eq_some_iff.mp hd; clear hd; have hd := hd37; clear hd37
    refine mr_iald ok_Mo_confirmFault rfl hM (N := 250) (by decide) hx36 (pc' := 37) rfl (Nat.le_of_ble_eq_true rfl) (Nat.le_of_ble_eq_true rfl) ?_
    refine am_steps ok_Mo_confirmFault 1 (x' := (if ((s.2.2.1 45 j35) : Int32) ≤ v3 then 86 else 40, [some (.ref 22), some (.int v1), some (.int v2), some (.int v3)], [], h, 0, 0)) rfl (Nat.le_of_ble_eq_true rfl) (Nat.le_of_ble_eq_true rfl) ?_
    refine am_if (fun hc38 => ?_) (fun hc38 => ?_)
    · rw [if_pos hc38] at hd
      refine am_drop 3 ?_
      cases hd; exact kk
    · rw [if_neg hc38] at hd
      refine am_steps ok_Mo_confirmFault 2 (x' := (if ¬ (v2 : Int32) = 0 then 74 else 44, [some (.ref 22), some (.int v1), some (.int v2), some (.int v3)], [], h, 0, 0)) rfl (Nat.le_of_ble_eq_true rfl) (Nat.le_of_ble_eq_true rfl) ?_
      obtain ⟨u39, hA41, hB42⟩ := Option.bind_eq_some_iff.mp hd; clear hd
      have K40 : am_S am_Pr none 2 49 0 0 46 (79, [some (.ref 22), some (.int v1), none, some (.int v3)], [.int u39], h, 0, 0) Q := by
        have hd := hB42
        refine am_steps ok_Mo_confirmFault 3 (x' := (30, [some (.ref 22), some (.int v1), some (.int u39), some (.int (v3 + 1))], [], h, 0, 0)) rfl (Nat.le_of_ble_eq_true rfl) (Nat.le_of_ble_eq_true rfl) ?_
        exact ih v1 u39 (v3 + 1) q hd kk
      clear hB42; have hd := hA41; clear hA41
      refine am_if (fun hc43 => ?_) (fun hc43 => ?_)
      · rw [if_pos hc43] at hd
        refine am_steps ok_Mo_confirmFault 2 (x' := (79, [some (.ref 22), some (.int v1), some (.int v2), some (.int v3)], [.int 1], h, 0, 0)) rfl (Nat.le_of_ble_eq_true rfl) (Nat.le_of_ble_eq_true rfl) ?_
        refine am_drop 2 ?_
        cases hd; exact K40 
      · rw [if_neg hc43] at hd
        refine am_steps ok_Mo_confirmFault 1 (x' := (45, [some (.ref 22), some (.int v1), some (.int v2), some (.int v3)], [.ref 22], h, 0, 0)) rfl (Nat.le_of_ble_eq_true rfl) (Nat.le_of_ble_eq_true rfl) ?_
        refine mr_get ok_Mo_confirmFault rfl hM (v := .ref 50) rfl (pc' := 48) rfl (Nat.le_of_ble_eq_true rfl) (Nat.le_of_ble_eq_true rfl) ?_
        refine am_steps ok_Mo_confirmFault 5 (x' := (53, [some (.ref 22), some (.int v1), some (.int v2), some (.int v3)], [.int ((4 * v1) + v3), .ref 50], h, 0, 0)) rfl (Nat.le_of_ble_eq_true rfl) (Nat.le_of_ble_eq_true rfl) ?_
        obtain ⟨j44, hx45, hd46⟩ := Option.bind_eq_some_iff.mp hd; clear hd; have hd := hd46; clear hd46
        refine mr_iald ok_Mo_confirmFault rfl hM (N := 1000) (by decide) hx45 (pc' := 54) rfl (Nat.le_of_ble_eq_true rfl) (Nat.le_of_ble_eq_true rfl) ?_
        refine am_steps ok_Mo_confirmFault 1 (x' := (55, [some (.ref 22), some (.int v1), some (.int v2), some (.int v3)], [.ref 22, .int (s.2.2.1 50 j44)], h, 0, 0)) rfl (Nat.le_of_ble_eq_true rfl) (Nat.le_of_ble_eq_true rfl) ?_
        refine mr_get ok_Mo_confirmFault rfl hM (v := .int (s.1 5)) rfl (pc' := 58) rfl (Nat.le_of_ble_eq_true rfl) (Nat.le_of_ble_eq_true rfl) ?_
        refine am_steps ok_Mo_confirmFault 1 (x' := (if ¬ ((s.2.2.1 50 j44) : Int32) = (s.1 5) then 78 else 61, [some (.ref 22), some (.int v1), some (.int v2), some (.int v3)], [], h, 0, 0)) rfl (Nat.le_of_ble_eq_true rfl) (Nat.le_of_ble_eq_true rfl) ?_
        refine am_if (fun hc47 => ?_) (fun hc47 => ?_)
        · rw [if_pos hc47] at hd
          refine am_steps ok_Mo_confirmFault 1 (x' := (79, [some (.ref 22), some (.int v1), some (.int v2), some (.int v3)], [.int 0], h, 0, 0)) rfl (Nat.le_of_ble_eq_true rfl) (Nat.le_of_ble_eq_true rfl) ?_
          refine am_drop 2 ?_
          cases hd; exact K40 
        · rw [if_neg hc47] at hd
          refine am_steps ok_Mo_confirmFault 1 (x' := (62, [some (.ref 22), some (.int v1), some (.int v2), some (.int v3)], [.ref 22], h, 0, 0)) rfl (Nat.le_of_ble_eq_true rfl) (Nat.le_of_ble_eq_true rfl) ?_
          refine mr_get ok_Mo_confirmFault rfl hM (v := .ref 54) rfl (pc' := 65) rfl (Nat.le_of_ble_eq_true rfl) (Nat.le_of_ble_eq_true rfl) ?_
          refine am_steps ok_Mo_confirmFault 5 (x' := (70, [some (.ref 22), some (.int v1), some (.int v2), some (.int v3)], [.int ((4 * v1) + v3), .ref 54], h, 0, 0)) rfl (Nat.le_of_ble_eq_true rfl) (Nat.le_of_ble_eq_true rfl) ?_
          refine mr_bald ok_Mo_confirmFault rfl hM (N := 1000) (by decide) (Or.inr rfl) hx45 (pc' := 71) rfl (Nat.le_of_ble_eq_true rfl) (Nat.le_of_ble_eq_true rfl) ?_
          refine am_steps ok_Mo_confirmFault 1 (x' := (if ¬ ((s.2.2.1 54 j44) : Int32) = 0 then 78 else 74, [some (.ref 22), some (.int v1), some (.int v2), some (.int v3)], [], h, 0, 0)) rfl (Nat.le_of_ble_eq_true rfl) (Nat.le_of_ble_eq_true rfl) ?_
          refine am_if (fun hc48 => ?_) (fun hc48 => ?_)
          · rw [if_pos hc48] at hd
            refine am_steps ok_Mo_confirmFault 1 (x' := (79, [some (.ref 22), some (.int v1), some (.int v2), some (.int v3)], [.int 0], h, 0, 0)) rfl (Nat.le_of_ble_eq_true rfl) (Nat.le_of_ble_eq_true rfl) ?_
            refine am_drop 2 ?_
            cases hd; exact K40 
          · rw [if_neg hc48] at hd
            refine am_steps ok_Mo_confirmFault 2 (x' := (79, [some (.ref 22), some (.int v1), some (.int v2), some (.int v3)], [.int 1], h, 0, 0)) rfl (Nat.le_of_ble_eq_true rfl) (Nat.le_of_ble_eq_true rfl) ?_
            refine am_drop 2 ?_
            cases hd; exact K40 
def d_Mo_confirmFault  (s : mS) : Option (Int32) := (d_Mo_memberAt 15 s).bind fun q1 => ((d_Mo_packed 19 8 s).bind fun q12 => ((d_Mo_openOf q1 q12 s).bind fun q23 => (if (0 : Int32) ≤ q23 then ((l_Mo_confirmFault_30 100000 q23 0 0 s).bind fun q49 => (if (q49 : Int32) = 0 then (some 8) else (some 0))) else (some 11))))
set_option maxHeartbeats 4000000 in
set_option maxRecDepth 100000 in
theorem k_Mo_confirmFault  (s : mS) (h0 : am_H) (hM : RM s h0) (q : Int32) (hd : d_Mo_confirmFault  s = some q) : am_Me am_Pr none 2 49 0 0 46 [.ref 22] h0 (am_is (some (.int q)) h0) := by
  refine am_enter (d := hd_Mo_confirmFault) rfl (by decide +kernel) (Nat.le_of_ble_eq_true rfl) ?_
  show am_S _ _ _ _ _ _ _ (0, [some (.ref 22), none, none, none], [], h0, 0, 0) _
  unfold d_Mo_confirmFault at hd
  refine am_steps ok_Mo_confirmFault 3 (x' := (4, [some (.ref 22), none, none, none], [.int 15, .ref 22, .ref 22], h0, 0, 0)) rfl (Nat.le_of_ble_eq_true rfl) (Nat.le_of_ble_eq_true rfl) ?_
  obtain ⟨q1, hq2, hd3⟩ := Option.bind_eq_some_iff.mp hd; clear hd; have hd := hd3; clear hd3
  refine ar_cv ok_Mo_confirmFault hk_Mo_memberAt rfl rfl (As := [.int 15]) (ad := 22) (rest := [.ref 22]) rfl rfl hM.1 (Nat.le_of_ble_eq_true rfl) (k_Mo_memberAt 15 s h0 hM q1 hq2) (Nat.le_of_ble_eq_true rfl) (Nat.le_of_ble_eq_true rfl) (Nat.le_of_ble_eq_true rfl) (Nat.le_of_ble_eq_true rfl) (pc' := 7) rfl (fun r4 h6 z5 => ?_)
  obtain ⟨z10, z11⟩ := z5; subst z10; rw [z11]
  show am_S _ _ _ _ _ _ _ (7, [some (.ref 22), none, none, none], [.int q1, .ref 22], h0, 0, 0) _
  refine am_steps ok_Mo_confirmFault 3 (x' := (12, [some (.ref 22), none, none, none], [.int 8, .int 19, .ref 22, .int q1, .ref 22], h0, 0, 0)) rfl (Nat.le_of_ble_eq_true rfl) (Nat.le_of_ble_eq_true rfl) ?_
  obtain ⟨q12, hq13, hd14⟩ := Option.bind_eq_some_iff.mp hd; clear hd; have hd := hd14; clear hd14
  refine ar_cv ok_Mo_confirmFault hk_Mo_packed rfl rfl (As := [.int 19, .int 8]) (ad := 22) (rest := [.int q1, .ref 22]) rfl rfl hM.1 (Nat.le_of_ble_eq_true rfl) (k_Mo_packed 19 8 s h0 hM q12 hq13) (Nat.le_of_ble_eq_true rfl) (Nat.le_of_ble_eq_true rfl) (Nat.le_of_ble_eq_true rfl) (Nat.le_of_ble_eq_true rfl) (pc' := 15) rfl (fun r15 h17 z16 => ?_)
  obtain ⟨z21, z22⟩ := z16; subst z21; rw [z22]
  show am_S _ _ _ _ _ _ _ (15, [some (.ref 22), none, none, none], [.long q12, .int q1, .ref 22], h0, 0, 0) _
  obtain ⟨q23, hq24, hd25⟩ := Option.bind_eq_some_iff.mp hd; clear hd; have hd := hd25; clear hd25
  refine ar_cv ok_Mo_confirmFault hk_Mo_openOf rfl rfl (As := [.int q1, .long q12]) (ad := 22) (rest := []) rfl rfl hM.1 (Nat.le_of_ble_eq_true rfl) (k_Mo_openOf q1 q12 s h0 hM q23 hq24) (Nat.le_of_ble_eq_true rfl) (Nat.le_of_ble_eq_true rfl) (Nat.le_of_ble_eq_true rfl) (Nat.le_of_ble_eq_true rfl) (pc' := 18) rfl (fun r26 h28 z27 => ?_)
  obtain ⟨z32, z33⟩ := z27; subst z32; rw [z33]
  show am_S _ _ _ _ _ _ _ (18, [some (.ref 22), none, none, none], [.int q23], h0, 0, 0) _
  refine am_steps ok_Mo_confirmFault 3 (x' := (if (0 : Int32) ≤ q23 then 26 else 23, [some (.ref 22), some (.int q23), none, none], [], h0, 0, 0)) rfl (Nat.le_of_ble_eq_true rfl) (Nat.le_of_ble_eq_true rfl) ?_
  refine am_if (fun hc34 => ?_) (fun hc34 => ?_)
  · rw [if_pos hc34] at hd
    refine am_steps ok_Mo_confirmFault 4 (x' := (30, [some (.ref 22), some (.int q23), some (.int 0), some (.int 0)], [], h0, 0, 0)) rfl (Nat.le_of_ble_eq_true rfl) (Nat.le_of_ble_eq_true rfl) ?_
    obtain ⟨q49, hq50, hd51⟩ := Option.bind_eq_some_iff.mp hd; clear hd; have hd := hd51; clear hd51
    refine L_Mo_confirmFault_30 s h0 hM 100000 q23 0 0 q49 hq50 ?_
    show am_S _ _ _ _ _ _ _ (86, [some (.ref 22), some (.int q23), some (.int q49), none], [], h0, 0, 0) _
    refine am_steps ok_Mo_confirmFault 2 (x' := (if (q49 : Int32) = 0 then 94 else 90, [some (.ref 22), some (.int q23), some (.int q49), none], [], h0, 0, 0)) rfl (Nat.le_of_ble_eq_true rfl) (Nat.le_of_ble_eq_true rfl) ?_
    refine am_if (fun hc52 => ?_) (fun hc52 => ?_)
    · rw [if_pos hc52] at hd
      refine am_steps ok_Mo_confirmFault 1 (x' := (96, [some (.ref 22), some (.int q23), some (.int q49), none], [.int 8], h0, 0, 0)) rfl (Nat.le_of_ble_eq_true rfl) (Nat.le_of_ble_eq_true rfl) ?_
      cases hd; exact am_ret ok_Mo_confirmFault rfl (Nat.le_of_ble_eq_true rfl) (Nat.le_of_ble_eq_true rfl) ⟨rfl, rfl⟩
    · rw [if_neg hc52] at hd
      refine am_steps ok_Mo_confirmFault 2 (x' := (96, [some (.ref 22), some (.int q23), some (.int q49), none], [.int 0], h0, 0, 0)) rfl (Nat.le_of_ble_eq_true rfl) (Nat.le_of_ble_eq_true rfl) ?_
      cases hd; exact am_ret ok_Mo_confirmFault rfl (Nat.le_of_ble_eq_true rfl) (Nat.le_of_ble_eq_true rfl) ⟨rfl, rfl⟩
  · rw [if_neg hc34] at hd
    refine am_steps ok_Mo_confirmFault 1 (x' := (25, [some (.ref 22), some (.int q23), none, none], [.int 11], h0, 0, 0)) rfl (Nat.le_of_ble_eq_true rfl) (Nat.le_of_ble_eq_true rfl) ?_
    cases hd; exact am_ret ok_Mo_confirmFault rfl (Nat.le_of_ble_eq_true rfl) (Nat.le_of_ble_eq_true rfl) ⟨rfl, rfl⟩
