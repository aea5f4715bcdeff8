/-! Methods of the class as functions of its state. -/
def hl_Me_readLegs_24 : Nat → Int32 → Int32 → hS → Option (hS)
  | 0, _, _, _ => none
  | fu + 1, v1, v2, s => if (v1 : Int32) ≤ v2 then (some s) else (if ((s.2.1 803 2) : Int32) = 0 then (some s) else ((h_Me_readKnownCode 0 s).bind fun q22 => ((h_Me_readKnownCode 0 q22).bind fun q33 => ((h_Me_readKnownCode 1 q33).bind fun q44 => ((h_Me_readAmount  q44).bind fun q55 => (hl_Me_readLegs_24 fu v1 (v2 + 1) q55))))))
set_option maxHeartbeats 4000000 in
set_option maxRecDepth 100000 in
theorem Lc_Me_readLegs_24 {Q : Option Value → am_H → Prop} (sh0 : List (Nat × Nat)) (h0 : am_H) : ∀ (fu : Nat) (v1 : Int32) (v2 : Int32) (s : hS) (h : am_H), RH s h → hF h0 h → hE sh0 s.1 → ∀ q : hS, hl_Me_readLegs_24 fu v1 v2 s = some q → (∀ h' : am_H, RH q h' → hF h0 h' → hE sh0 q.1 → am_S am_Pr none 3 65 0 0 198 (61, [some (.ref 2), some (.int v1), none], [], h', 0, 0) Q) → am_S am_Pr none 3 65 0 0 198 (24, [some (.ref 2), some (.int v1), some (.int v2)], [], h, 0, 0) Q := by
  intro fu
  induction fu with
  | zero => intro v1 v2 s h hR f he  q hd; cases hd
  | succ fu ih =>
    intro v1 v2 s h hR f he  q hd kk
    unfold hl_Me_readLegs_24 at hd
    refine am_steps ok_Me_readLegs 3 (x' := (if (v1 : Int32) ≤ v2 then 61 else 29, [some (.ref 2), some (.int v1), some (.int v2)], [], h, 0, 0)) rfl (Nat.le_of_ble_eq_true rfl) (Nat.le_of_ble_eq_true rfl) ?_
    refine am_if (fun hc20 => ?_) (fun hc20 => ?_)
    · rw [if_pos hc20] at hd
      refine am_drop 2 ?_
      cases hd; exact kk h hR f he 
    · rw [if_neg hc20] at hd
      refine am_steps ok_Me_readLegs 1 (x' := (30, [some (.ref 2), some (.int v1), some (.int v2)], [.ref 2], h, 0, 0)) rfl (Nat.le_of_ble_eq_true rfl) (Nat.le_of_ble_eq_true rfl) ?_
      refine hr_get ok_Me_readLegs rfl hR (kd := 8) (hs_k hR (a := 2) rfl) rfl (Nat.le_of_ble_eq_true rfl) (Nat.le_of_ble_eq_true rfl) (v := .int (s.2.1 803 2)) rfl (pc' := 33) rfl (Nat.le_of_ble_eq_true rfl) (Nat.le_of_ble_eq_true rfl) ?_
      refine am_steps ok_Me_readLegs 1 (x' := (if ((s.2.1 803 2) : Int32) = 0 then 61 else 36, [some (.ref 2), some (.int v1), some (.int v2)], [], h, 0, 0)) rfl (Nat.le_of_ble_eq_true rfl) (Nat.le_of_ble_eq_true rfl) ?_
      refine am_if (fun hc21 => ?_) (fun hc21 => ?_)
      · rw [if_pos hc21] at hd
        refine am_drop 2 ?_
        cases hd; exact kk h hR f he 
      · rw [if_neg hc21] at hd
        refine am_steps ok_Me_readLegs 2 (x' := (38, [some (.ref 2), some (.int v1), some (.int v2)], [.int 0, .ref 2], h, 0, 0)) rfl (Nat.le_of_ble_eq_true rfl) (Nat.le_of_ble_eq_true rfl) ?_
        obtain ⟨q22, hq23, hd24⟩ := Option.bind_eq_some_iff.mp hd; clear hd; have hd := hd24; clear hd24
        refine ar_cv ok_Me_readLegs hk_Me_readKnownCode rfl rfl (As := [.int 0]) (ad := 2) (rest := []) rfl rfl (hR.ob (hs_k hR (a := 2) rfl) (Nat.le_of_ble_eq_true rfl)) (Nat.le_of_ble_eq_true rfl) (c_Me_readKnownCode 0 s h hR  q22 hq23) (Nat.le_of_ble_eq_true rfl) (Nat.le_of_ble_eq_true rfl) (Nat.le_of_ble_eq_true rfl) (Nat.le_of_ble_eq_true rfl) (pc' := 41) rfl (fun r25 h27 z26 => ?_)
        obtain ⟨rfl, hR29, g30, e31⟩ := z26
        have f32 := hF.tr f g30
        show am_S _ _ _ _ _ _ _ (41, [some (.ref 2), some (.int v1), some (.int v2)], [], h27, 0, 0) _
        refine am_steps ok_Me_readLegs 2 (x' := (43, [some (.ref 2), some (.int v1), some (.int v2)], [.int 0, .ref 2], h27, 0, 0)) rfl (Nat.le_of_ble_eq_true rfl) (Nat.le_of_ble_eq_true rfl) ?_
        obtain ⟨q33, hq34, hd35⟩ := Option.bind_eq_some_iff.mp hd; clear hd; have hd := hd35; clear hd35
        refine ar_cv ok_Me_readLegs hk_Me_readKnownCode rfl rfl (As := [.int 0]) (ad := 2) (rest := []) rfl rfl (hR29.ob (hs_k hR29 (a := 2) rfl) (Nat.le_of_ble_eq_true rfl)) (Nat.le_of_ble_eq_true rfl) (c_Me_readKnownCode 0 q22 h27 hR29  q33 hq34) (Nat.le_of_ble_eq_true rfl) (Nat.le_of_ble_eq_true rfl) (Nat.le_of_ble_eq_true rfl) (Nat.le_of_ble_eq_true rfl) (pc' := 46) rfl (fun r36 h38 z37 => ?_)
        obtain ⟨rfl, hR40, g41, e42⟩ := z37
        have f43 := hF.tr f32 g41
        show am_S _ _ _ _ _ _ _ (46, [some (.ref 2), some (.int v1), some (.int v2)], [], h38, 0, 0) _
        refine am_steps ok_Me_readLegs 2 (x' := (48, [some (.ref 2), some (.int v1), some (.int v2)], [.int 1, .ref 2], h38, 0, 0)) rfl (Nat.le_of_ble_eq_true rfl) (Nat.le_of_ble_eq_true rfl) ?_
        obtain ⟨q44, hq45, hd46⟩ := Option.bind_eq_some_iff.mp hd; clear hd; have hd := hd46; clear hd46
        refine ar_cv ok_Me_readLegs hk_Me_readKnownCode rfl rfl (As := [.int 1]) (ad := 2) (rest := []) rfl rfl (hR40.ob (hs_k hR40 (a := 2) rfl) (Nat.le_of_ble_eq_true rfl)) (Nat.le_of_ble_eq_true rfl) (c_Me_readKnownCode 1 q33 h38 hR40  q44 hq45) (Nat.le_of_ble_eq_true rfl) (Nat.le_of_ble_eq_true rfl) (Nat.le_of_ble_eq_true rfl) (Nat.le_of_ble_eq_true rfl) (pc' := 51) rfl (fun r47 h49 z48 => ?_)
        obtain ⟨rfl, hR51, g52, e53⟩ := z48
        have f54 := hF.tr f43 g52
        show am_S _ _ _ _ _ _ _ (51, [some (.ref 2), some (.int v1), some (.int v2)], [], h49, 0, 0) _
        refine am_steps ok_Me_readLegs 1 (x' := (52, [some (.ref 2), some (.int v1), some (.int v2)], [.ref 2], h49, 0, 0)) rfl (Nat.le_of_ble_eq_true rfl) (Nat.le_of_ble_eq_true rfl) ?_
        obtain ⟨q55, hq56, hd57⟩ := Option.bind_eq_some_iff.mp hd; clear hd; have hd := hd57; clear hd57
        refine ar_cv ok_Me_readLegs hk_Me_readAmount rfl rfl (As := []) (ad := 2) (rest := []) rfl rfl (hR51.ob (hs_k hR51 (a := 2) rfl) (Nat.le_of_ble_eq_true rfl)) (Nat.le_of_ble_eq_true rfl) (c_Me_readAmount  q44 h49 hR51  q55 hq56) (Nat.le_of_ble_eq_true rfl) (Nat.le_of_ble_eq_true rfl) (Nat.le_of_ble_eq_true rfl) (Nat.le_of_ble_eq_true rfl) (pc' := 55) rfl (fun r58 h60 z59 => ?_)
        obtain ⟨rfl, hR62, g63, e64⟩ := z59
        have f65 := hF.tr f54 g63
        show am_S _ _ _ _ _ _ _ (55, [some (.ref 2), some (.int v1), some (.int v2)], [], h60, 0, 0) _
        refine am_steps ok_Me_readLegs 2 (x' := (24, [some (.ref 2), some (.int v1), some (.int (v2 + 1))], [], h60, 0, 0)) rfl (Nat.le_of_ble_eq_true rfl) (Nat.le_of_ble_eq_true rfl) ?_
        exact ih v1 (v2 + 1) q55 h60 hR62 f65 ((((he.tr e31).tr e42).tr e53).tr e64)  q hd kk
def h_Me_readLegs  (S : hS) : Option (hS) := (h_Me_readDigits 1 S).bind fun q1 => ((if ((Int64.toInt32 q1.1) : Int32) < 1 then (some (hpI q1.2 803 2 0)) else (if ((Int64.toInt32 q1.1) : Int32) ≤ 4 then (some q1.2) else (some (hpI q1.2 803 2 0)))).bind fun (u12 : hS) => ((hl_Me_readLegs_24 100000 (Int64.toInt32 q1.1) 0 u12).bind fun q66 => (some q66)))
set_option maxHeartbeats 4000000 in
set_option maxRecDepth 100000 in
theorem c_Me_readLegs  (S : hS) (h0 : am_H) (hR : RH S h0)  (q : hS) (hd : h_Me_readLegs  S = some q) : am_Me am_Pr none 3 65 0 0 198 [.ref 2] h0 (hQv q S.1 h0) := by
  refine am_enter (d := hd_Me_readLegs) rfl (by decide +kernel) (Nat.le_of_ble_eq_true rfl) ?_
  show am_S _ _ _ _ _ _ _ (0, [some (.ref 2), none, none], [], h0, 0, 0) _
  unfold h_Me_readLegs at hd
  refine am_steps ok_Me_readLegs 2 (x' := (2, [some (.ref 2), none, none], [.int 1, .ref 2], h0, 0, 0)) rfl (Nat.le_of_ble_eq_true rfl) (Nat.le_of_ble_eq_true rfl) ?_
  obtain ⟨q1, hq2, hd3⟩ := Option.bind_eq_some_iff.mp hd; clear hd; have hd := hd3; clear hd3
  refine ar_cv ok_Me_readLegs hk_Me_readDigits rfl rfl (As := [.int 1]) (ad := 2) (rest := []) rfl rfl (hR.ob (hs_k hR (a := 2) rfl) (Nat.le_of_ble_eq_true rfl)) (Nat.le_of_ble_eq_true rfl) (c_Me_readDigits 1 S h0 hR  q1 hq2) (Nat.le_of_ble_eq_true rfl) (Nat.le_of_ble_eq_true rfl) (Nat.le_of_ble_eq_true rfl) (Nat.le_of_ble_eq_true rfl) (pc' := 5) rfl (fun r4 h6 z5 => ?_)
  obtain ⟨rfl, hR8, g9, e10⟩ := z5
  have f11 := hF.tr hF.rf g9
  show am_S _ _ _ _ _ _ _ (5, [some (.ref 2), none, none], [.long q1.1], h6, 0, 0) _
  refine am_steps ok_Me_readLegs 5 (x' := (if ((Int64.toInt32 q1.1) : Int32) < 1 then 17 else 12, [some (.ref 2), some (.int (Int64.toInt32 q1.1)), none], [], h6, 0, 0)) rfl (Nat.le_of_ble_eq_true rfl) (Nat.le_of_ble_eq_true rfl) ?_
  obtain ⟨u12, hA14, hB15⟩ := Option.bind_eq_some_iff.mp hd; clear hd
  have K13 : ∀ h' : am_H, RH u12 h' → hF h0 h' → hE q1.2.1 u12.1 → am_S am_Pr none 3 65 0 0 198 (22, [some (.ref 2), some (.int (Int64.toInt32 q1.1)), none], [], h', 0, 0) (hQv q S.1 h0) := by
    have hd := hB15
    intro h16 hR17 f18 e19
    refine am_steps ok_Me_readLegs 2 (x' := (24, [some (.ref 2), some (.int (Int64.toInt32 q1.1)), some (.int 0)], [], h16, 0, 0)) rfl (Nat.le_of_ble_eq_true rfl) (Nat.le_of_ble_eq_true rfl) ?_
    obtain ⟨q66, hq67, hd68⟩ := Option.bind_eq_some_iff.mp hd; clear hd; have hd := hd68; clear hd68
    refine Lc_Me_readLegs_24 u12.1 h0 100000 (Int64.toInt32 q1.1) 0 u12 h16 hR17 f18 hE.rf  q66 hq67 (fun h69 hR70 f71 e72 => ?_)
    show am_S _ _ _ _ _ _ _ (61, [some (.ref 2), some (.int (Int64.toInt32 q1.1)), none], [], h69, 0, 0) _
    cases hd; exact am_ret ok_Me_readLegs rfl (Nat.le_of_ble_eq_true rfl) (Nat.le_of_ble_eq_true rfl) ⟨rfl, hR70, f71, (((hE.rf.tr e10).tr e19).tr e72)⟩
  clear hB15; have hd := hA14; clear hA14
  refine am_if (fun hc73 => ?_) (fun hc73 => ?_)
  · rw [if_pos hc73] at hd
    refine am_steps ok_Me_readLegs 2 (x' := (19, [some (.ref 2), some (.int (Int64.toInt32 q1.1)), none], [.int 0, .ref 2], h6, 0, 0)) rfl (Nat.le_of_ble_eq_true rfl) (Nat.le_of_ble_eq_true rfl) ?_
    refine hr_put ok_Me_readLegs rfl hR8 (kd := 8) (hs_k hR8 (a := 2) rfl) rfl (Nat.le_of_ble_eq_true rfl) (Nat.le_of_ble_eq_true rfl) rfl (S' := (hpI q1.2 803 2 0)) rfl (hWT.up hR8.2.2 rfl rfl rfl) (pc' := 22) rfl (Nat.le_of_ble_eq_true rfl) (Nat.le_of_ble_eq_true rfl) (fun h74 hR75 g76 => ?_)
    have f77 := hF.tr f11 g76
    cases hd; exact K13 h74 hR75 f77 hE.rf
  · rw [if_neg hc73] at hd
    refine am_steps ok_Me_readLegs 3 (x' := (if ((Int64.toInt32 q1.1) : Int32) ≤ 4 then 22 else 17, [some (.ref 2), some (.int (Int64.toInt32 q1.1)), none], [], h6, 0, 0)) rfl (Nat.le_of_ble_eq_true rfl) (Nat.le_of_ble_eq_true rfl) ?_
    refine am_if (fun hc78 => ?_) (fun hc78 => ?_)
    · rw [if_pos hc78] at hd
      cases hd; exact K13 h6 hR8 f11 hE.rf
    · rw [if_neg hc78] at hd
      refine am_steps ok_Me_readLegs 2 (x' := (19, [some (.ref 2), some (.int (Int64.toInt32 q1.1)), none], [.int 0, .ref 2], h6, 0, 0)) rfl (Nat.le_of_ble_eq_true rfl) (Nat.le_of_ble_eq_true rfl) ?_
      refine hr_put ok_Me_readLegs rfl hR8 (kd := 8) (hs_k hR8 (a := 2) rfl) rfl (Nat.le_of_ble_eq_true rfl) (Nat.le_of_ble_eq_true rfl) rfl (S' := (hpI q1.2 803 2 0)) rfl (hWT.up hR8.2.2 rfl rfl rfl) (pc' := 22) rfl (Nat.le_of_ble_eq_true rfl) (Nat.le_of_ble_eq_true rfl) (fun h79 hR80 g81 => ?_)
      have f82 := hF.tr f11 g81
      cases hd; exact K13 h79 hR80 f82 hE.rf
def hl_Me_readFields_2 : Nat → Nat → Int32 → hS → Option (hS)
  | 0, _, _, _ => none
  | fu + 1, v1, v2, s => (am_sl v1).bind fun q1 => (if (q1 : Int32) ≤ v2 then (some s) else (if ((s.2.1 803 2) : Int32) = 0 then (some s) else ((am_sc v1 v2).bind fun q12 => ((if q12 = 97 then ((h_Me_readKnownCode 1 s).bind fun q31 => (some q31)) else (if q12 = 104 then ((h_Me_readDigits 2 s).bind fun q45 => (some (hpI q45.2 816 2 (Int64.toInt32 q45.1)))) else (if q12 = 108 then ((h_Me_readLegs  s).bind fun q63 => (some q63)) else (if q12 = 109 then ((h_Me_readCode 3 s).bind fun q77 => (some (hpI q77.2 814 2 (Int64.toInt32 q77.1)))) else (if q12 = 110 then ((h_Me_readCode 4 s).bind fun q95 => (some (hpI q95.2 814 2 (Int64.toInt32 q95.1)))) else (if q12 = 112 then ((h_Me_readKnownCode 0 s).bind fun q113 => (some q113)) else (if q12 = 114 then ((h_Me_readCode 8 s).bind fun q127 => (some (hpL q127.2 818 2 q127.1))) else (if q12 = 115 then ((h_Me_readSort  s).bind fun q145 => (some q145)) else (if q12 = 118 then ((h_Me_readAmount  s).bind fun q159 => (some q159)) else (if q12 = 121 then ((h_Me_readPriority  s).bind fun q173 => (some q173)) else (some (hpI s 803 2 0)))))))))))).bind fun (u21 : hS) => (hl_Me_readFields_2 fu v1 (v2 + 1) u21)))))
set_option maxHeartbeats 4000000 in
set_option maxRecDepth 100000 in
theorem Lc_Me_readFields_2 {Q : Option Value → am_H → Prop} (sh0 : List (Nat × Nat)) (h0 : am_H) : ∀ (fu : Nat) (v1 : Nat) (v2 : Int32) (s : hS) (h : am_H), RH s h → hF h0 h → hE sh0 s.1 → ∀ q : hS, hl_Me_readFields_2 fu v1 v2 s = some q → (∀ h' : am_H, RH q h' → hF h0 h' → hE sh0 q.1 → am_S am_Pr none 4 87 0 0 193 (243, [some (.ref 2), some (.ref (am_M + (10 + v1))), none], [], h', 0, 0) Q) → am_S am_Pr none 4 87 0 0 193 (2, [some (.ref 2), some (.ref (am_M + (10 + v1))), some (.int v2)], [], h, 0, 0) Q := by
  intro fu
  induction fu with
  | zero => intro v1 v2 s h hR f he  q hd; cases hd
  | succ fu ih =>
    intro v1 v2 s h hR f he  q hd kk
    unfold hl_Me_readFields_2 at hd
    refine am_steps ok_Me_readFields 2 (x' := (4, [some (.ref 2), some (.ref (am_M + (10 + v1))), some (.int v2)], [.ref (am_M + (10 + v1)), .int v2], h, 0, 0)) rfl (Nat.le_of_ble_eq_true rfl) (Nat.le_of_ble_eq_true rfl) ?_
    obtain ⟨q1, hq2, hd3⟩ := Option.bind_eq_some_iff.mp hd; clear hd; have hd := hd3; clear hd3
    obtain ⟨s7, hs8, _⟩ := Option.map_eq_some_iff.mp hq2
    refine ao_callS (d0 := hd_Me_readFields) rfl (x := 106) (a := 499) (j' := 236) hk_St_length rfl rfl hs8 (by decide +kernel) (by decide +kernel) (As := []) (rest := [.int v2]) rfl rfl (Nat.le_of_ble_eq_true rfl) (c_St_length v1 h q1 hq2) (Nat.le_of_ble_eq_true rfl) (Nat.le_of_ble_eq_true rfl) (Nat.le_of_ble_eq_true rfl) (Nat.le_of_ble_eq_true rfl) (pc' := 7) rfl (fun r4 h9 z5 => ?_)
    obtain ⟨rfl, z6⟩ := z5; rw [z6]
    show am_S _ _ _ _ _ _ _ (7, [some (.ref 2), some (.ref (am_M + (10 + v1))), some (.int v2)], [.int q1, .int v2], h, 0, 0) _
    refine am_steps ok_Me_readFields 1 (x' := (if (q1 : Int32) ≤ v2 then 243 else 10, [some (.ref 2), some (.ref (am_M + (10 + v1))), some (.int v2)], [], h, 0, 0)) rfl (Nat.le_of_ble_eq_true rfl) (Nat.le_of_ble_eq_true rfl) ?_
    refine am_if (fun hc10 => ?_) (fun hc10 => ?_)
    · rw [if_pos hc10] at hd
      refine am_drop 2 ?_
      cases hd; exact kk h hR f he 
    · rw [if_neg hc10] at hd
      refine am_steps ok_Me_readFields 1 (x' := (11, [some (.ref 2), some (.ref (am_M + (10 + v1))), some (.int v2)], [.ref 2], h, 0, 0)) rfl (Nat.le_of_ble_eq_true rfl) (Nat.le_of_ble_eq_true rfl) ?_
      refine hr_get ok_Me_readFields rfl hR (kd := 8) (hs_k hR (a := 2) rfl) rfl (Nat.le_of_ble_eq_true rfl) (Nat.le_of_ble_eq_true rfl) (v := .int (s.2.1 803 2)) rfl (pc' := 14) rfl (Nat.le_of_ble_eq_true rfl) (Nat.le_of_ble_eq_true rfl) ?_
      refine am_steps ok_Me_readFields 1 (x' := (if ((s.2.1 803 2) : Int32) = 0 then 243 else 17, [some (.ref 2), some (.ref (am_M + (10 + v1))), some (.int v2)], [], h, 0, 0)) rfl (Nat.le_of_ble_eq_true rfl) (Nat.le_of_ble_eq_true rfl) ?_
      refine am_if (fun hc11 => ?_) (fun hc11 => ?_)
      · rw [if_pos hc11] at hd
        refine am_drop 2 ?_
        cases hd; exact kk h hR f he 
      · rw [if_neg hc11] at hd
        refine am_steps ok_Me_readFields 2 (x' := (19, [some (.ref 2), some (.ref (am_M + (10 + v1))), some (.int v2)], [.int v2, .ref (am_M + (10 + v1))], h, 0, 0)) rfl (Nat.le_of_ble_eq_true rfl) (Nat.le_of_ble_eq_true rfl) ?_
        obtain ⟨q12, hq13, hd14⟩ := Option.bind_eq_some_iff.mp hd; clear hd; have hd := hd14; clear hd14
        obtain ⟨s18, hs19, _⟩ := Option.bind_eq_some_iff.mp hq13
        refine ao_callS (d0 := hd_Me_readFields) rfl (x := 110) (a := 509) (j' := 239) hk_St_charAt rfl rfl hs19 (by decide +kernel) (by decide +kernel) (As := [.int v2]) (rest := []) rfl rfl (Nat.le_of_ble_eq_true rfl) (c_St_charAt v1 v2 h q12 hq13) (Nat.le_of_ble_eq_true rfl) (Nat.le_of_ble_eq_true rfl) (Nat.le_of_ble_eq_true rfl) (Nat.le_of_ble_eq_true rfl) (pc' := 22) rfl (fun r15 h20 z16 => ?_)
        obtain ⟨rfl, z17⟩ := z16; rw [z17]
        show am_S _ _ _ _ _ _ _ (22, [some (.ref 2), some (.ref (am_M + (10 + v1))), some (.int v2)], [.int q12], h, 0, 0) _
        obtain ⟨u21, hA23, hB24⟩ := Option.bind_eq_some_iff.mp hd; clear hd
        have K22 : ∀ h' : am_H, RH u21 h' → hF h0 h' → hE s.1 u21.1 → am_S am_Pr none 4 87 0 0 193 (237, [some (.ref 2), some (.ref (am_M + (10 + v1))), some (.int v2)], [], h', 0, 0) Q := by
          have hd := hB24
          intro h25 hR26 f27 e28
          refine am_steps ok_Me_readFields 2 (x' := (2, [some (.ref 2), some (.ref (am_M + (10 + v1))), some (.int (v2 + 1))], [], h25, 0, 0)) rfl (Nat.le_of_ble_eq_true rfl) (Nat.le_of_ble_eq_true rfl) ?_
          exact ih v1 (v2 + 1) u21 h25 hR26 f27 (he.tr e28)  q hd kk
        clear hB24; have hd := hA23; clear hA23
        by_cases hc29 : q12 = 97
        · rw [if_pos hc29] at hd
          have KT30 : am_S am_Pr none 4 87 0 0 193 (177, [some (.ref 2), some (.ref (am_M + (10 + v1))), some (.int v2)], [], h, 0, 0) Q := by
            refine am_steps ok_Me_readFields 2 (x' := (179, [some (.ref 2), some (.ref (am_M + (10 + v1))), some (.int v2)], [.int 1, .ref 2], h, 0, 0)) rfl (Nat.le_of_ble_eq_true rfl) (Nat.le_of_ble_eq_true rfl) ?_
            obtain ⟨q31, hq32, hd33⟩ := Option.bind_eq_some_iff.mp hd; clear hd; have hd := hd33; clear hd33
            refine ar_cv ok_Me_readFields hk_Me_readKnownCode rfl rfl (As := [.int 1]) (ad := 2) (rest := []) rfl rfl (hR.ob (hs_k hR (a := 2) rfl) (Nat.le_of_ble_eq_true rfl)) (Nat.le_of_ble_eq_true rfl) (c_Me_readKnownCode 1 s h hR  q31 hq32) (Nat.le_of_ble_eq_true rfl) (Nat.le_of_ble_eq_true rfl) (Nat.le_of_ble_eq_true rfl) (Nat.le_of_ble_eq_true rfl) (pc' := 182) rfl (fun r34 h36 z35 => ?_)
            obtain ⟨rfl, hR38, g39, e40⟩ := z35
            have f41 := hF.tr f g39
            show am_S _ _ _ _ _ _ _ (182, [some (.ref 2), some (.ref (am_M + (10 + v1))), some (.int v2)], [], h36, 0, 0) _
            refine am_steps ok_Me_readFields 1 (x' := (237, [some (.ref 2), some (.ref (am_M + (10 + v1))), some (.int v2)], [], h36, 0, 0)) rfl (Nat.le_of_ble_eq_true rfl) (Nat.le_of_ble_eq_true rfl) ?_
            cases hd; exact K22 h36 hR38 f41 e40
          exact ar_tswk ok_Me_readFields rfl hc29 (by decide +kernel) rfl rfl (Nat.le_of_ble_eq_true rfl) (Nat.le_of_ble_eq_true rfl) KT30
        rw [if_neg hc29] at hd
        by_cases hc43 : q12 = 104
        · rw [if_pos hc43] at hd
          have KT44 : am_S am_Pr none 4 87 0 0 193 (192, [some (.ref 2), some (.ref (am_M + (10 + v1))), some (.int v2)], [], h, 0, 0) Q := by
            refine am_steps ok_Me_readFields 3 (x' := (195, [some (.ref 2), some (.ref (am_M + (10 + v1))), some (.int v2)], [.int 2, .ref 2, .ref 2], h, 0, 0)) rfl (Nat.le_of_ble_eq_true rfl) (Nat.le_of_ble_eq_true rfl) ?_
            obtain ⟨q45, hq46, hd47⟩ := Option.bind_eq_some_iff.mp hd; clear hd; have hd := hd47; clear hd47
            refine ar_cv ok_Me_readFields hk_Me_readDigits rfl rfl (As := [.int 2]) (ad := 2) (rest := [.ref 2]) rfl rfl (hR.ob (hs_k hR (a := 2) rfl) (Nat.le_of_ble_eq_true rfl)) (Nat.le_of_ble_eq_true rfl) (c_Me_readDigits 2 s h hR  q45 hq46) (Nat.le_of_ble_eq_true rfl) (Nat.le_of_ble_eq_true rfl) (Nat.le_of_ble_eq_true rfl) (Nat.le_of_ble_eq_true rfl) (pc' := 198) rfl (fun r48 h50 z49 => ?_)
            obtain ⟨rfl, hR52, g53, e54⟩ := z49
            have f55 := hF.tr f g53
            show am_S _ _ _ _ _ _ _ (198, [some (.ref 2), some (.ref (am_M + (10 + v1))), some (.int v2)], [.long q45.1, .ref 2], h50, 0, 0) _
            refine am_steps ok_Me_readFields 1 (x' := (199, [some (.ref 2), some (.ref (am_M + (10 + v1))), some (.int v2)], [.int (Int64.toInt32 q45.1), .ref 2], h50, 0, 0)) rfl (Nat.le_of_ble_eq_true rfl) (Nat.le_of_ble_eq_true rfl) ?_
            refine hr_put ok_Me_readFields rfl hR52 (kd := 8) (hs_k hR52 (a := 2) rfl) rfl (Nat.le_of_ble_eq_true rfl) (Nat.le_of_ble_eq_true rfl) rfl (S' := (hpI q45.2 816 2 (Int64.toInt32 q45.1))) rfl (hWT.up hR52.2.2 rfl rfl rfl) (pc' := 202) rfl (Nat.le_of_ble_eq_true rfl) (Nat.le_of_ble_eq_true rfl) (fun h56 hR57 g58 => ?_)
            have f59 := hF.tr f55 g58
            refine am_steps ok_Me_readFields 1 (x' := (237, [some (.ref 2), some (.ref (am_M + (10 + v1))), some (.int v2)], [], h56, 0, 0)) rfl (Nat.le_of_ble_eq_true rfl) (Nat.le_of_ble_eq_true rfl) ?_
            cases hd; exact K22 h56 hR57 f59 e54
          exact ar_tswk ok_Me_readFields rfl hc43 (by decide +kernel) rfl rfl (Nat.le_of_ble_eq_true rfl) (Nat.le_of_ble_eq_true rfl) KT44
        rw [if_neg hc43] at hd
        by_cases hc61 : q12 = 108
        · rw [if_pos hc61] at hd
          have KT62 : am_S am_Pr none 4 87 0 0 193 (225, [some (.ref 2), some (.ref (am_M + (10 + v1))), some (.int v2)], [], h, 0, 0) Q := by
            refine am_steps ok_Me_readFields 1 (x' := (226, [some (.ref 2), some (.ref (am_M + (10 + v1))), some (.int v2)], [.ref 2], h, 0, 0)) rfl (Nat.le_of_ble_eq_true rfl) (Nat.le_of_ble_eq_true rfl) ?_
            obtain ⟨q63, hq64, hd65⟩ := Option.bind_eq_some_iff.mp hd; clear hd; have hd := hd65; clear hd65
            refine ar_cv ok_Me_readFields hk_Me_readLegs rfl rfl (As := []) (ad := 2) (rest := []) rfl rfl (hR.ob (hs_k hR (a := 2) rfl) (Nat.le_of_ble_eq_true rfl)) (Nat.le_of_ble_eq_true rfl) (c_Me_readLegs  s h hR  q63 hq64) (Nat.le_of_ble_eq_true rfl) (Nat.le_of_ble_eq_true rfl) (Nat.le_of_ble_eq_true rfl) (Nat.le_of_ble_eq_true rfl) (pc' := 229) rfl (fun r66 h68 z67 => ?_)
            obtain ⟨rfl, hR70, g71, e72⟩ := z67
            have f73 := hF.tr f g71
            show am_S _ _ _ _ _ _ _ (229, [some (.ref 2), some (.ref (am_M + (10 + v1))), some (.int v2)], [], h68, 0, 0) _
            refine am_steps ok_Me_readFields 1 (x' := (237, [some (.ref 2), some (.ref (am_M + (10 + v1))), some (.int v2)], [], h68, 0, 0)) rfl (Nat.le_of_ble_eq_true rfl) (Nat.le_of_ble_eq_true rfl) ?_
            cases hd; exact K22 h68 hR70 f73 e72
          exact ar_tswk ok_Me_readFields rfl hc61 (by decide +kernel) rfl rfl (Nat.le_of_ble_eq_true rfl) (Nat.le_of_ble_eq_true rfl) KT62
        rw [if_neg hc61] at hd
        by_cases hc75 : q12 = 109
        · rw [if_pos hc75] at hd
          have KT76 : am_S am_Pr none 4 87 0 0 193 (149, [some (.ref 2), some (.ref (am_M + (10 + v1))), some (.int v2)], [], h, 0, 0) Q := by
            refine am_steps ok_Me_readFields 3 (x' := (152, [some (.ref 2), some (.ref (am_M + (10 + v1))), some (.int v2)], [.int 3, .ref 2, .ref 2], h, 0, 0)) rfl (Nat.le_of_ble_eq_true rfl) (Nat.le_of_ble_eq_true rfl) ?_
            obtain ⟨q77, hq78, hd79⟩ := Option.bind_eq_some_iff.mp hd; clear hd; have hd := hd79; clear hd79
            refine ar_cv ok_Me_readFields hk_Me_readCode rfl rfl (As := [.int 3]) (ad := 2) (rest := [.ref 2]) rfl rfl (hR.ob (hs_k hR (a := 2) rfl) (Nat.le_of_ble_eq_true rfl)) (Nat.le_of_ble_eq_true rfl) (c_Me_readCode 3 s h hR  q77 hq78) (Nat.le_of_ble_eq_true rfl) (Nat.le_of_ble_eq_true rfl) (Nat.le_of_ble_eq_true rfl) (Nat.le_of_ble_eq_true rfl) (pc' := 155) rfl (fun r80 h82 z81 => ?_)
            obtain ⟨rfl, hR84, g85, e86⟩ := z81
            have f87 := hF.tr f g85
            show am_S _ _ _ _ _ _ _ (155, [some (.ref 2), some (.ref (am_M + (10 + v1))), some (.int v2)], [.long q77.1, .ref 2], h82, 0, 0) _
            refine am_steps ok_Me_readFields 1 (x' := (156, [some (.ref 2), some (.ref (am_M + (10 + v1))), some (.int v2)], [.int (Int64.toInt32 q77.1), .ref 2], h82, 0, 0)) rfl (Nat.le_of_ble_eq_true rfl) (Nat.le_of_ble_eq_true rfl) ?_
            refine hr_put ok_Me_readFields rfl hR84 (kd := 8) (hs_k hR84 (a := 2) rfl) rfl (Nat.le_of_ble_eq_true rfl) (Nat.le_of_ble_eq_true rfl) rfl (S' := (hpI q77.2 814 2 (Int64.toInt32 q77.1))) rfl (hWT.up hR84.2.2 rfl rfl rfl) (pc' := 159) rfl (Nat.le_of_ble_eq_true rfl) (Nat.le_of_ble_eq_true rfl) (fun h88 hR89 g90 => ?_)
            have f91 := hF.tr f87 g90
            refine am_steps ok_Me_readFields 1 (x' := (237, [some (.ref 2), some (.ref (am_M + (10 + v1))), some (.int v2)], [], h88, 0, 0)) rfl (Nat.le_of_ble_eq_true rfl) (Nat.le_of_ble_eq_true rfl) ?_
            cases hd; exact K22 h88 hR89 f91 e86
          exact ar_tswk ok_Me_readFields rfl hc75 (by decide +kernel) rfl rfl (Nat.le_of_ble_eq_true rfl) (Nat.le_of_ble_eq_true rfl) KT76
        rw [if_neg hc75] at hd
        by_cases hc93 : q12 = 110
        · rw [if_pos hc93] at hd
          have KT94 : am_S am_Pr none 4 87 0 0 193 (136, [some (.ref 2), some (.ref (am_M + (10 + v1))), some (.int v2)], [], h, 0, 0) Q := by
            refine am_steps ok_Me_readFields 3 (x' := (139, [some (.ref 2), some (.ref (am_M + (10 + v1))), some (.int v2)], [.int 4, .ref 2, .ref 2], h, 0, 0)) rfl (Nat.le_of_ble_eq_true rfl) (Nat.le_of_ble_eq_true rfl) ?_
            obtain ⟨q95, hq96, hd97⟩ := Option.bind_eq_some_iff.mp hd; clear hd; have hd := hd97; clear hd97
            refine ar_cv ok_Me_readFields hk_Me_readCode rfl rfl (As := [.int 4]) (ad := 2) (rest := [.ref 2]) rfl rfl (hR.ob (hs_k hR (a := 2) rfl) (Nat.le_of_ble_eq_true rfl)) (Nat.le_of_ble_eq_true rfl) (c_Me_readCode 4 s h hR  q95 hq96) (Nat.le_of_ble_eq_true rfl) (Nat.le_of_ble_eq_true rfl) (Nat.le_of_ble_eq_true rfl) (Nat.le_of_ble_eq_true rfl) (pc' := 142) rfl (fun r98 h100 z99 => ?_)
            obtain ⟨rfl, hR102, g103, e104⟩ := z99
            have f105 := hF.tr f g103
            show am_S _ _ _ _ _ _ _ (142, [some (.ref 2), some (.ref (am_M + (10 + v1))), some (.int v2)], [.long q95.1, .ref 2], h100, 0, 0) _
            refine am_steps ok_Me_readFields 1 (x' := (143, [some (.ref 2), some (.ref (am_M + (10 + v1))), some (.int v2)], [.int (Int64.toInt32 q95.1), .ref 2], h100, 0, 0)) rfl (Nat.le_of_ble_eq_true rfl) (Nat.le_of_ble_eq_true rfl) ?_
            refine hr_put ok_Me_readFields rfl hR102 (kd := 8) (hs_k hR102 (a := 2) rfl) rfl (Nat.le_of_ble_eq_true rfl) (Nat.le_of_ble_eq_true rfl) rfl (S' := (hpI q95.2 814 2 (Int64.toInt32 q95.1))) rfl (hWT.up hR102.2.2 rfl rfl rfl) (pc' := 146) rfl (Nat.le_of_ble_eq_true rfl) (Nat.le_of_ble_eq_true rfl) (fun h106 hR107 g108 => ?_)
            have f109 := hF.tr f105 g108
            refine am_steps ok_Me_readFields 1 (x' := (237, [some (.ref 2), some (.ref (am_M + (10 + v1))), some (.int v2)], [], h106, 0, 0)) rfl (Nat.le_of_ble_eq_true rfl) (Nat.le_of_ble_eq_true rfl) ?_
            cases hd; exact K22 h106 hR107 f109 e104
          exact ar_tswk ok_Me_readFields rfl hc93 (by decide +kernel) rfl rfl (Nat.le_of_ble_eq_true rfl) (Nat.le_of_ble_eq_true rfl) KT94
        rw [if_neg hc93] at hd
        by_cases hc111 : q12 = 112
        · rw [if_pos hc111] at hd
          have KT112 : am_S am_Pr none 4 87 0 0 193 (169, [some (.ref 2), some (.ref (am_M + (10 + v1))), some (.int v2)], [], h, 0, 0) Q := by
            refine am_steps ok_Me_readFields 2 (x' := (171, [some (.ref 2), some (.ref (am_M + (10 + v1))), some (.int v2)], [.int 0, .ref 2], h, 0, 0)) rfl (Nat.le_of_ble_eq_true rfl) (Nat.le_of_ble_eq_true rfl) ?_
            obtain ⟨q113, hq114, hd115⟩ := Option.bind_eq_some_iff.mp hd; clear hd; have hd := hd115; clear hd115
            refine ar_cv ok_Me_readFields hk_Me_readKnownCode rfl rfl (As := [.int 0]) (ad := 2) (rest := []) rfl rfl (hR.ob (hs_k hR (a := 2) rfl) (Nat.le_of_ble_eq_true rfl)) (Nat.le_of_ble_eq_true rfl) (c_Me_readKnownCode 0 s h hR  q113 hq114) (Nat.le_of_ble_eq_true rfl) (Nat.le_of_ble_eq_true rfl) (Nat.le_of_ble_eq_true rfl) (Nat.le_of_ble_eq_true rfl) (pc' := 174) rfl (fun r116 h118 z117 => ?_)
            obtain ⟨rfl, hR120, g121, e122⟩ := z117
            have f123 := hF.tr f g121
            show am_S _ _ _ _ _ _ _ (174, [some (.ref 2), some (.ref (am_M + (10 + v1))), some (.int v2)], [], h118, 0, 0) _
            refine am_steps ok_Me_readFields 1 (x' := (237, [some (.ref 2), some (.ref (am_M + (10 + v1))), some (.int v2)], [], h118, 0, 0)) rfl (Nat.le_of_ble_eq_true rfl) (Nat.le_of_ble_eq_true rfl) ?_
            cases hd; exact K22 h118 hR120 f123 e122
          exact ar_tswk ok_Me_readFields rfl hc111 (by decide +kernel) rfl rfl (Nat.le_of_ble_eq_true rfl) (Nat.le_of_ble_eq_true rfl) KT112
        rw [if_neg hc111] at hd
        by_cases hc125 : q12 = 114
        · rw [if_pos hc125] at hd
          have KT126 : am_S am_Pr none 4 87 0 0 193 (212, [some (.ref 2), some (.ref (am_M + (10 + v1))), some (.int v2)], [], h, 0, 0) Q := by
            refine am_steps ok_Me_readFields 3 (x' := (216, [some (.ref 2), some (.ref (am_M + (10 + v1))), some (.int v2)], [.int 8, .ref 2, .ref 2], h, 0, 0)) rfl (Nat.le_of_ble_eq_true rfl) (Nat.le_of_ble_eq_true rfl) ?_
            obtain ⟨q127, hq128, hd129⟩ := Option.bind_eq_some_iff.mp hd; clear hd; have hd := hd129; clear hd129
            refine ar_cv ok_Me_readFields hk_Me_readCode rfl rfl (As := [.int 8]) (ad := 2) (rest := [.ref 2]) rfl rfl (hR.ob (hs_k hR (a := 2) rfl) (Nat.le_of_ble_eq_true rfl)) (Nat.le_of_ble_eq_true rfl) (c_Me_readCode 8 s h hR  q127 hq128) (Nat.le_of_ble_eq_true rfl) (Nat.le_of_ble_eq_true rfl) (Nat.le_of_ble_eq_true rfl) (Nat.le_of_ble_eq_true rfl) (pc' := 219) rfl (fun r130 h132 z131 => ?_)
            obtain ⟨rfl, hR134, g135, e136⟩ := z131
            have f137 := hF.tr f g135
            show am_S _ _ _ _ _ _ _ (219, [some (.ref 2), some (.ref (am_M + (10 + v1))), some (.int v2)], [.long q127.1, .ref 2], h132, 0, 0) _
            refine hr_put ok_Me_readFields rfl hR134 (kd := 8) (hs_k hR134 (a := 2) rfl) rfl (Nat.le_of_ble_eq_true rfl) (Nat.le_of_ble_eq_true rfl) rfl (S' := (hpL q127.2 818 2 q127.1)) rfl (hWT.up hR134.2.2 rfl rfl rfl) (pc' := 222) rfl (Nat.le_of_ble_eq_true rfl) (Nat.le_of_ble_eq_true rfl) (fun h138 hR139 g140 => ?_)
            have f141 := hF.tr f137 g140
            refine am_steps ok_Me_readFields 1 (x' := (237, [some (.ref 2), some (.ref (am_M + (10 + v1))), some (.int v2)], [], h138, 0, 0)) rfl (Nat.le_of_ble_eq_true rfl) (Nat.le_of_ble_eq_true rfl) ?_
            cases hd; exact K22 h138 hR139 f141 e136
          exact ar_tswk ok_Me_readFields rfl hc125 (by decide +kernel) rfl rfl (Nat.le_of_ble_eq_true rfl) (Nat.le_of_ble_eq_true rfl) KT126
        rw [if_neg hc125] at hd
        by_cases hc143 : q12 = 115
        · rw [if_pos hc143] at hd
          have KT144 : am_S am_Pr none 4 87 0 0 193 (162, [some (.ref 2), some (.ref (am_M + (10 + v1))), some (.int v2)], [], h, 0, 0) Q := by
            refine am_steps ok_Me_readFields 1 (x' := (163, [some (.ref 2), some (.ref (am_M + (10 + v1))), some (.int v2)], [.ref 2], h, 0, 0)) rfl (Nat.le_of_ble_eq_true rfl) (Nat.le_of_ble_eq_true rfl) ?_
            obtain ⟨q145, hq146, hd147⟩ := Option.bind_eq_some_iff.mp hd; clear hd; have hd := hd147; clear hd147
            refine ar_cv ok_Me_readFields hk_Me_readSort rfl rfl (As := []) (ad := 2) (rest := []) rfl rfl (hR.ob (hs_k hR (a := 2) rfl) (Nat.le_of_ble_eq_true rfl)) (Nat.le_of_ble_eq_true rfl) (c_Me_readSort  s h hR  q145 hq146) (Nat.le_of_ble_eq_true rfl) (Nat.le_of_ble_eq_true rfl) (Nat.le_of_ble_eq_true rfl) (Nat.le_of_ble_eq_true rfl) (pc' := 166) rfl (fun r148 h150 z149 => ?_)
            obtain ⟨rfl, hR152, g153, e154⟩ := z149
            have f155 := hF.tr f g153
            show am_S _ _ _ _ _ _ _ (166, [some (.ref 2), some (.ref (am_M + (10 + v1))), some (.int v2)], [], h150, 0, 0) _
            refine am_steps ok_Me_readFields 1 (x' := (237, [some (.ref 2), some (.ref (am_M + (10 + v1))), some (.int v2)], [], h150, 0, 0)) rfl (Nat.le_of_ble_eq_true rfl) (Nat.le_of_ble_eq_true rfl) ?_
            cases hd; exact K22 h150 hR152 f155 e154
          exact ar_tswk ok_Me_readFields rfl hc143 (by decide +kernel) rfl rfl (Nat.le_of_ble_eq_true rfl) (Nat.le_of_ble_eq_true rfl) KT144
        rw [if_neg hc143] at hd
        by_cases hc157 : q12 = 118
        · rw [if_pos hc157] at hd
          have KT158 : am_S am_Pr none 4 87 0 0 193 (185, [some (.ref 2), some (.ref (am_M + (10 + v1))), some (.int v2)], [], h, 0, 0) Q := by
            refine am_steps ok_Me_readFields 1 (x' := (186, [some (.ref 2), some (.ref (am_M + (10 + v1))), some (.int v2)], [.ref 2], h, 0, 0)) rfl (Nat.le_of_ble_eq_true rfl) (Nat.le_of_ble_eq_true rfl) ?_
            obtain ⟨q159, hq160, hd161⟩ := Option.bind_eq_some_iff.mp hd; clear hd; have hd := hd161; clear hd161
            refine ar_cv ok_Me_readFields hk_Me_readAmount rfl rfl (As := []) (ad := 2) (rest := []) rfl rfl (hR.ob (hs_k hR (a := 2) rfl) (Nat.le_of_ble_eq_true rfl)) (Nat.le_of_ble_eq_true rfl) (c_Me_readAmount  s h hR  q159 hq160) (Nat.le_of_ble_eq_true rfl) (Nat.le_of_ble_eq_true rfl) (Nat.le_of_ble_eq_true rfl) (Nat.le_of_ble_eq_true rfl) (pc' := 189) rfl (fun r162 h164 z163 => ?_)
            obtain ⟨rfl, hR166, g167, e168⟩ := z163
            have f169 := hF.tr f g167
            show am_S _ _ _ _ _ _ _ (189, [some (.ref 2), some (.ref (am_M + (10 + v1))), some (.int v2)], [], h164, 0, 0) _
            refine am_steps ok_Me_readFields 1 (x' := (237, [some (.ref 2), some (.ref (am_M + (10 + v1))), some (.int v2)], [], h164, 0, 0)) rfl (Nat.le_of_ble_eq_true rfl) (Nat.le_of_ble_eq_true rfl) ?_
            cases hd; exact K22 h164 hR166 f169 e168
          exact ar_tswk ok_Me_readFields rfl hc157 (by decide +kernel) rfl rfl (Nat.le_of_ble_eq_true rfl) (Nat.le_of_ble_eq_true rfl) KT158
        rw [if_neg hc157] at hd
        by_cases hc171 : q12 = 121
        · rw [if_pos hc171] at hd
          have KT172 : am_S am_Pr none 4 87 0 0 193 (205, [some (.ref 2), some (.ref (am_M + (10 + v1))), some (.int v2)], [], h, 0, 0) Q := by
            refine am_steps ok_Me_readFields 1 (x' := (206, [some (.ref 2), some (.ref (am_M + (10 + v1))), some (.int v2)], [.ref 2], h, 0, 0)) rfl (Nat.le_of_ble_eq_true rfl) (Nat.le_of_ble_eq_true rfl) ?_
            obtain ⟨q173, hq174, hd175⟩ := Option.bind_eq_some_iff.mp hd; clear hd; have hd := hd175; clear hd175
            refine ar_cv ok_Me_readFields hk_Me_readPriority rfl rfl (As := []) (ad := 2) (rest := []) rfl rfl (hR.ob (hs_k hR (a := 2) rfl) (Nat.le_of_ble_eq_true rfl)) (Nat.le_of_ble_eq_true rfl) (c_Me_readPriority  s h hR  q173 hq174) (Nat.le_of_ble_eq_true rfl) (Nat.le_of_ble_eq_true rfl) (Nat.le_of_ble_eq_true rfl) (Nat.le_of_ble_eq_true rfl) (pc' := 209) rfl (fun r176 h178 z177 => ?_)
            obtain ⟨rfl, hR180, g181, e182⟩ := z177
            have f183 := hF.tr f g181
            show am_S _ _ _ _ _ _ _ (209, [some (.ref 2), some (.ref (am_M + (10 + v1))), some (.int v2)], [], h178, 0, 0) _
            refine am_steps ok_Me_readFields 1 (x' := (237, [some (.ref 2), some (.ref (am_M + (10 + v1))), some (.int v2)], [], h178, 0, 0)) rfl (Nat.le_of_ble_eq_true rfl) (Nat.le_of_ble_eq_true rfl) ?_
            cases hd; exact K22 h178 hR180 f183 e182
          exact ar_tswk ok_Me_readFields rfl hc171 (by decide +kernel) rfl rfl (Nat.le_of_ble_eq_true rfl) (Nat.le_of_ble_eq_true rfl) KT172
        rw [if_neg hc171] at hd
        have KT185 : am_S am_Pr none 4 87 0 0 193 (232, [some (.ref 2), some (.ref (am_M + (10 + v1))), some (.int v2)], [], h, 0, 0) Q := by
          refine am_steps ok_Me_readFields 2 (x' := (234, [some (.ref 2), some (.ref (am_M + (10 + v1))), some (.int v2)], [.int 0, .ref 2], h, 0, 0)) rfl (Nat.le_of_ble_eq_true rfl) (Nat.le_of_ble_eq_true rfl) ?_
          refine hr_put ok_Me_readFields rfl hR (kd := 8) (hs_k hR (a := 2) rfl) rfl (Nat.le_of_ble_eq_true rfl) (Nat.le_of_ble_eq_true rfl) rfl (S' := (hpI s 803 2 0)) rfl (hWT.up hR.2.2 rfl rfl rfl) (pc' := 237) rfl (Nat.le_of_ble_eq_true rfl) (Nat.le_of_ble_eq_true rfl) (fun h186 hR187 g188 => ?_)
          have f189 := hF.tr f g188
          cases hd; exact K22 h186 hR187 f189 hE.rf
        by_cases hc190 : q12 = 98
        · exact ar_tswk ok_Me_readFields rfl hc190 (by decide +kernel) rfl rfl (Nat.le_of_ble_eq_true rfl) (Nat.le_of_ble_eq_true rfl) KT185
        by_cases hc191 : q12 = 99
        · exact ar_tswk ok_Me_readFields rfl hc191 (by decide +kernel) rfl rfl (Nat.le_of_ble_eq_true rfl) (Nat.le_of_ble_eq_true rfl) KT185
        by_cases hc192 : q12 = 100
        · exact ar_tswk ok_Me_readFields rfl hc192 (by decide +kernel) rfl rfl (Nat.le_of_ble_eq_true rfl) (Nat.le_of_ble_eq_true rfl) KT185
        by_cases hc193 : q12 = 101
        · exact ar_tswk ok_Me_readFields rfl hc193 (by decide +kernel) rfl rfl (Nat.le_of_ble_eq_true rfl) (Nat.le_of_ble_eq_true rfl) KT185
        by_cases hc194 : q12 = 102
        · exact ar_tswk ok_Me_readFields rfl hc194 (by decide +kernel) rfl rfl (Nat.le_of_ble_eq_true rfl) (Nat.le_of_ble_eq_true rfl) KT185
        by_cases hc195 : q12 = 103
        · exact ar_tswk ok_Me_readFields rfl hc195 (by decide +kernel) rfl rfl (Nat.le_of_ble_eq_true rfl) (Nat.le_of_ble_eq_true rfl) KT185
        by_cases hc196 : q12 = 105
        · exact ar_tswk ok_Me_readFields rfl hc196 (by decide +kernel) rfl rfl (Nat.le_of_ble_eq_true rfl) (Nat.le_of_ble_eq_true rfl) KT185
        by_cases hc197 : q12 = 106
        · exact ar_tswk ok_Me_readFields rfl hc197 (by decide +kernel) rfl rfl (Nat.le_of_ble_eq_true rfl) (Nat.le_of_ble_eq_true rfl) KT185
        by_cases hc198 : q12 = 107
        · exact ar_tswk ok_Me_readFields rfl hc198 (by decide +kernel) rfl rfl (Nat.le_of_ble_eq_true rfl) (Nat.le_of_ble_eq_true rfl) KT185
        by_cases hc199 : q12 = 111
        · exact ar_tswk ok_Me_readFields rfl hc199 (by decide +kernel) rfl rfl (Nat.le_of_ble_eq_true rfl) (Nat.le_of_ble_eq_true rfl) KT185
        by_cases hc200 : q12 = 113
        · exact ar_tswk ok_Me_readFields rfl hc200 (by decide +kernel) rfl rfl (Nat.le_of_ble_eq_true rfl) (Nat.le_of_ble_eq_true rfl) KT185
        by_cases hc201 : q12 = 116
        · exact ar_tswk ok_Me_readFields rfl hc201 (by decide +kernel) rfl rfl (Nat.le_of_ble_eq_true rfl) (Nat.le_of_ble_eq_true rfl) KT185
        by_cases hc202 : q12 = 117
        · exact ar_tswk ok_Me_readFields rfl hc202 (by decide +kernel) rfl rfl (Nat.le_of_ble_eq_true rfl) (Nat.le_of_ble_eq_true rfl) KT185
        by_cases hc203 : q12 = 119
        · exact ar_tswk ok_Me_readFields rfl hc203 (by decide +kernel) rfl rfl (Nat.le_of_ble_eq_true rfl) (Nat.le_of_ble_eq_true rfl) KT185
        by_cases hc204 : q12 = 120
        · exact ar_tswk ok_Me_readFields rfl hc204 (by decide +kernel) rfl rfl (Nat.le_of_ble_eq_true rfl) (Nat.le_of_ble_eq_true rfl) KT185
        have ho209 : q12.toInt < 97 ∨ 121 < q12.toInt := tsw_out (fun c206 h207 h208 e205 => by
          have c206x : c206 = 97 ∨ c206 = 98 ∨ c206 = 99 ∨ c206 = 100 ∨ c206 = 101 ∨ c206 = 102 ∨ c206 = 103 ∨ c206 = 104 ∨ c206 = 105 ∨ c206 = 106 ∨ c206 = 107 ∨ c206 = 108 ∨ c206 = 109 ∨ c206 = 110 ∨ c206 = 111 ∨ c206 = 112 ∨ c206 = 113 ∨ c206 = 114 ∨ c206 = 115 ∨ c206 = 116 ∨ c206 = 117 ∨ c206 = 118 ∨ c206 = 119 ∨ c206 = 120 ∨ c206 = 121 := by omega
          rcases c206x with rfl | rfl | rfl | rfl | rfl | rfl | rfl | rfl | rfl | rfl | rfl | rfl | rfl | rfl | rfl | rfl | rfl | rfl | rfl | rfl | rfl | rfl | rfl | rfl | rfl
          · exact hc29 e205
          · exact hc190 e205
          · exact hc191 e205
          · exact hc192 e205
          · exact hc193 e205
          · exact hc194 e205
          · exact hc195 e205
          · exact hc43 e205
          · exact hc196 e205
          · exact hc197 e205
          · exact hc198 e205
          · exact hc61 e205
          · exact hc75 e205
          · exact hc93 e205
          · exact hc199 e205
          · exact hc111 e205
          · exact hc200 e205
          · exact hc125 e205
          · exact hc143 e205
          · exact hc201 e205
          · exact hc202 e205
          · exact hc157 e205
          · exact hc203 e205
          · exact hc204 e205
          · exact hc171 e205)
        exact ar_tsw ok_Me_readFields rfl ho209 rfl (Nat.le_of_ble_eq_true rfl) (Nat.le_of_ble_eq_true rfl) KT185
def h_Me_readFields (a : Nat) (S : hS) : Option (hS) := (hl_Me_readFields_2 100000 a 0 S).bind fun q210 => (some q210)
set_option maxHeartbeats 4000000 in
set_option maxRecDepth 100000 in
theorem c_Me_readFields (a : Nat) (S : hS) (h0 : am_H) (hR : RH S h0)  (q : hS) (hd : h_Me_readFields a S = some q) : am_Me am_Pr none 4 87 0 0 193 [.ref 2, .ref (am_M + (10 + a))] h0 (hQv q S.1 h0) := by
  refine am_enter (d := hd_Me_readFields) rfl (by decide +kernel) (Nat.le_of_ble_eq_true rfl) ?_
  show am_S _ _ _ _ _ _ _ (0, [some (.ref 2), some (.ref (am_M + (10 + a))), none], [], h0, 0, 0) _
  unfold h_Me_readFields at hd
  refine am_steps ok_Me_readFields 2 (x' := (2, [some (.ref 2), some (.ref (am_M + (10 + a))), some (.int 0)], [], h0, 0, 0)) rfl (Nat.le_of_ble_eq_true rfl) (Nat.le_of_ble_eq_true rfl) ?_
  obtain ⟨q210, hq211, hd212⟩ := Option.bind_eq_some_iff.mp hd; clear hd; have hd := hd212; clear hd212
  refine Lc_Me_readFields_2 S.1 h0 100000 a 0 S h0 hR hF.rf hE.rf  q210 hq211 (fun h213 hR214 f215 e216 => ?_)
  show am_S _ _ _ _ _ _ _ (243, [some (.ref 2), some (.ref (am_M + (10 + a))), none], [], h213, 0, 0) _
  cases hd; exact am_ret ok_Me_readFields rfl (Nat.le_of_ble_eq_true rfl) (Nat.le_of_ble_eq_true rfl) ⟨rfl, hR214, f215, (hE.rf.tr e216)⟩
def h_Me_read (a : Int32) (S : hS) : Option (Int32 × hS) := if ((if 400 < a then 400 else a) : Int32) < 5 then (some (0, (hpI (hpI (hpI (hpI S 801 2 (if 400 < a then 400 else a)) 803 2 1) 810 2 0) 812 2 0))) else ((h_Me_hasLettersAndDigitsAlone  (hpI (hpI (hpI (hpI S 801 2 (if 400 < a then 400 else a)) 803 2 1) 810 2 0) 812 2 0)).bind fun q18 => (if (q18 : Int32) = 0 then (some (0, (hpI (hpI (hpI (hpI S 801 2 (if 400 < a then 400 else a)) 803 2 1) 810 2 0) 812 2 0))) else ((h_Me_hasRightCheckDigits  (hpI (hpI (hpI (hpI S 801 2 (if 400 < a then 400 else a)) 803 2 1) 810 2 0) 812 2 0)).bind fun q27 => (if ¬ (q27 : Int32) = 0 then ((h_Me_readKind  (hpI (hpI (hpI (hpI S 801 2 (if 400 < a then 400 else a)) 803 2 1) 810 2 0) 812 2 0)).bind fun q36 => ((h_Me_readCode 4 (hpI q36.2 804 2 q36.1)).bind fun q51 => ((h_Me_readCode 8 (hpI q51.2 805 2 (Int64.toInt32 q51.1))).bind fun q66 => ((h_Me_fieldsOf (q66.2.2.1 804 2)).bind fun q81 => ((h_Me_readFields q81 (hpL q66.2 806 2 q66.1)).bind fun q89 => (if ¬ ((q89.2.1 804 2) : Int32) = 1 then (if ((q89.2.1 804 2) : Int32) < 0 then (some (0, q89)) else (if ((q89.2.1 803 2) : Int32) = 0 then (some (0, q89)) else (if ¬ ((q89.2.1 802 2) : Int32) = ((q89.2.1 801 2) - 2) then (some (0, q89)) else (some (1, q89))))) else (if ¬ ((q89.2.1 815 2) : Int32) = 0 then (if ((q89.2.1 804 2) : Int32) < 0 then (some (0, q89)) else (if ((q89.2.1 803 2) : Int32) = 0 then (some (0, q89)) else (if ¬ ((q89.2.1 802 2) : Int32) = ((q89.2.1 801 2) - 2) then (some (0, q89)) else (some (1, q89))))) else ((am_ix 0 4).bind fun j108 => (if ¬ ((lg_cmp (q89.2.2.2.2.2.1 6 j108) 0) : Int32) = 0 then (some (0, q89)) else (if ((q89.2.1 816 2) : Int32) = 0 then (if ((q89.2.1 804 2) : Int32) < 0 then (some (0, q89)) else (if ((q89.2.1 803 2) : Int32) = 0 then (some (0, q89)) else (if ¬ ((q89.2.1 802 2) : Int32) = ((q89.2.1 801 2) - 2) then (some (0, q89)) else (some (1, q89))))) else (some (0, q89)))))))))))) else (some (0, (hpI (hpI (hpI (hpI S 801 2 (if 400 < a then 400 else a)) 803 2 1) 810 2 0) 812 2 0)))))))
set_option maxHeartbeats 4000000 in
set_option maxRecDepth 100000 in
theorem c_Me_read (a : Int32) (S : hS) (h0 : am_H) (hR : RH S h0)  (q : Int32 × hS) (hd : h_Me_read a S = some q) : am_Me am_Pr none 5 109 0 0 184 [.ref 2, .int a] h0 (hQr (.int q.1) q.2 S.1 h0) := by
  refine am_enter (d := hd_Me_read) rfl (by decide +kernel) (Nat.le_of_ble_eq_true rfl) ?_
  show am_S _ _ _ _ _ _ _ (0, [some (.ref 2), some (.int a)], [], h0, 0, 0) _
  unfold h_Me_read at hd
  refine am_steps ok_Me_read 3 (x' := (3, [some (.ref 2), some (.int a)], [.ref 2, .int a, .ref 2], h0, 0, 0)) rfl (Nat.le_of_ble_eq_true rfl) (Nat.le_of_ble_eq_true rfl) ?_
  refine hr_get ok_Me_read rfl hR (kd := 8) (hs_k hR (a := 2) rfl) rfl (Nat.le_of_ble_eq_true rfl) (Nat.le_of_ble_eq_true rfl) (v := .ref 1) (congrArg va_rf (hR.2.2.2.2.1 (800, 2, 1) (by decide))) (pc' := 6) rfl (Nat.le_of_ble_eq_true rfl) (Nat.le_of_ble_eq_true rfl) ?_
  refine hr_alen ok_Me_read rfl hR (kd := 22) (hs_k hR (a := 1) rfl) (by decide) (w := 400) (by rw [(hs_ln hR rfl)]; decide +kernel) (pc' := 7) rfl (Nat.le_of_ble_eq_true rfl) (Nat.le_of_ble_eq_true rfl) ?_
  refine ar_min ok_Me_read rfl (w := (if 400 < a then 400 else a)) rfl (Nat.le_of_ble_eq_true rfl) (Nat.le_of_ble_eq_true rfl) (Nat.le_of_ble_eq_true rfl) (Nat.le_of_ble_eq_true rfl) (pc' := 10) rfl ?_
  refine hr_put ok_Me_read rfl hR (kd := 8) (hs_k hR (a := 2) rfl) rfl (Nat.le_of_ble_eq_true rfl) (Nat.le_of_ble_eq_true rfl) rfl (S' := (hpI S 801 2 (if 400 < a then 400 else a))) rfl (hWT.up hR.2.2 rfl rfl rfl) (pc' := 13) rfl (Nat.le_of_ble_eq_true rfl) (Nat.le_of_ble_eq_true rfl) (fun h1 hR2 g3 => ?_)
  have f4 := hF.tr hF.rf g3
  refine am_steps ok_Me_read 2 (x' := (15, [some (.ref 2), some (.int a)], [.int 1, .ref 2], h1, 0, 0)) rfl (Nat.le_of_ble_eq_true rfl) (Nat.le_of_ble_eq_true rfl) ?_
  refine hr_put ok_Me_read rfl hR2 (kd := 8) (hs_k hR2 (a := 2) rfl) rfl (Nat.le_of_ble_eq_true rfl) (Nat.le_of_ble_eq_true rfl) rfl (S' := (hpI (hpI S 801 2 (if 400 < a then 400 else a)) 803 2 1)) rfl (hWT.up hR2.2.2 rfl rfl rfl) (pc' := 18) rfl (Nat.le_of_ble_eq_true rfl) (Nat.le_of_ble_eq_true rfl) (fun h5 hR6 g7 => ?_)
  have f8 := hF.tr f4 g7
  refine am_steps ok_Me_read 2 (x' := (20, [some (.ref 2), some (.int a)], [.int 0, .ref 2], h5, 0, 0)) rfl (Nat.le_of_ble_eq_true rfl) (Nat.le_of_ble_eq_true rfl) ?_
  refine hr_put ok_Me_read rfl hR6 (kd := 8) (hs_k hR6 (a := 2) rfl) rfl (Nat.le_of_ble_eq_true rfl) (Nat.le_of_ble_eq_true rfl) rfl (S' := (hpI (hpI (hpI S 801 2 (if 400 < a then 400 else a)) 803 2 1) 810 2 0)) rfl (hWT.up hR6.2.2 rfl rfl rfl) (pc' := 23) rfl (Nat.le_of_ble_eq_true rfl) (Nat.le_of_ble_eq_true rfl) (fun h9 hR10 g11 => ?_)
  have f12 := hF.tr f8 g11
  refine am_steps ok_Me_read 2 (x' := (25, [some (.ref 2), some (.int a)], [.int 0, .ref 2], h9, 0, 0)) rfl (Nat.le_of_ble_eq_true rfl) (Nat.le_of_ble_eq_true rfl) ?_
  refine hr_put ok_Me_read rfl hR10 (kd := 8) (hs_k hR10 (a := 2) rfl) rfl (Nat.le_of_ble_eq_true rfl) (Nat.le_of_ble_eq_true rfl) rfl (S' := (hpI (hpI (hpI (hpI S 801 2 (if 400 < a then 400 else a)) 803 2 1) 810 2 0) 812 2 0)) rfl (hWT.up hR10.2.2 rfl rfl rfl) (pc' := 28) rfl (Nat.le_of_ble_eq_true rfl) (Nat.le_of_ble_eq_true rfl) (fun h13 hR14 g15 => ?_)
  have f16 := hF.tr f12 g15
  refine am_steps ok_Me_read 1 (x' := (29, [some (.ref 2), some (.int a)], [.ref 2], h13, 0, 0)) rfl (Nat.le_of_ble_eq_true rfl) (Nat.le_of_ble_eq_true rfl) ?_
  refine hr_get ok_Me_read rfl hR14 (kd := 8) (hs_k hR14 (a := 2) rfl) rfl (Nat.le_of_ble_eq_true rfl) (Nat.le_of_ble_eq_true rfl) (v := .int (if 400 < a then 400 else a)) rfl (pc' := 32) rfl (Nat.le_of_ble_eq_true rfl) (Nat.le_of_ble_eq_true rfl) ?_
  refine am_steps ok_Me_read 2 (x' := (if ((if 400 < a then 400 else a) : Int32) < 5 then 50 else 36, [some (.ref 2), some (.int a)], [], h13, 0, 0)) rfl (Nat.le_of_ble_eq_true rfl) (Nat.le_of_ble_eq_true rfl) ?_
  refine am_if (fun hc17 => ?_) (fun hc17 => ?_)
  · rw [if_pos hc17] at hd
    refine am_steps ok_Me_read 1 (x' := (51, [some (.ref 2), some (.int a)], [.int 0], h13, 0, 0)) rfl (Nat.le_of_ble_eq_true rfl) (Nat.le_of_ble_eq_true rfl) ?_
    cases hd; exact am_ret ok_Me_read rfl (Nat.le_of_ble_eq_true rfl) (Nat.le_of_ble_eq_true rfl) ⟨rfl, hR14, f16, hE.rf⟩
  · rw [if_neg hc17] at hd
    refine am_steps ok_Me_read 1 (x' := (37, [some (.ref 2), some (.int a)], [.ref 2], h13, 0, 0)) rfl (Nat.le_of_ble_eq_true rfl) (Nat.le_of_ble_eq_true rfl) ?_
    obtain ⟨q18, hq19, hd20⟩ := Option.bind_eq_some_iff.mp hd; clear hd; have hd := hd20; clear hd20
    refine ar_cv ok_Me_read hk_Me_hasLettersAndDigitsAlone rfl rfl (As := []) (ad := 2) (rest := []) rfl rfl (hR14.ob (hs_k hR14 (a := 2) rfl) (Nat.le_of_ble_eq_true rfl)) (Nat.le_of_ble_eq_true rfl) (c_Me_hasLettersAndDigitsAlone  (hpI (hpI (hpI (hpI S 801 2 (if 400 < a then 400 else a)) 803 2 1) 810 2 0) 812 2 0) h13 hR14  q18 hq19) (Nat.le_of_ble_eq_true rfl) (Nat.le_of_ble_eq_true rfl) (Nat.le_of_ble_eq_true rfl) (Nat.le_of_ble_eq_true rfl) (pc' := 40) rfl (fun r21 h23 z22 => ?_)
    obtain ⟨rfl, z25⟩ := z22; rw [z25]
    show am_S _ _ _ _ _ _ _ (40, [some (.ref 2), some (.int a)], [.int q18], h13, 0, 0) _
    refine am_steps ok_Me_read 1 (x' := (if (q18 : Int32) = 0 then 50 else 43, [some (.ref 2), some (.int a)], [], h13, 0, 0)) rfl (Nat.le_of_ble_eq_true rfl) (Nat.le_of_ble_eq_true rfl) ?_
    refine am_if (fun hc26 => ?_) (fun hc26 => ?_)
    · rw [if_pos hc26] at hd
      refine am_steps ok_Me_read 1 (x' := (51, [some (.ref 2), some (.int a)], [.int 0], h13, 0, 0)) rfl (Nat.le_of_ble_eq_true rfl) (Nat.le_of_ble_eq_true rfl) ?_
      cases hd; exact am_ret ok_Me_read rfl (Nat.le_of_ble_eq_true rfl) (Nat.le_of_ble_eq_true rfl) ⟨rfl, hR14, f16, hE.rf⟩
    · rw [if_neg hc26] at hd
      refine am_steps ok_Me_read 1 (x' := (44, [some (.ref 2), some (.int a)], [.ref 2], h13, 0, 0)) rfl (Nat.le_of_ble_eq_true rfl) (Nat.le_of_ble_eq_true rfl) ?_
      obtain ⟨q27, hq28, hd29⟩ := Option.bind_eq_some_iff.mp hd; clear hd; have hd := hd29; clear hd29
      refine ar_cv ok_Me_read hk_Me_hasRightCheckDigits rfl rfl (As := []) (ad := 2) (rest := []) rfl rfl (hR14.ob (hs_k hR14 (a := 2) rfl) (Nat.le_of_ble_eq_true rfl)) (Nat.le_of_ble_eq_true rfl) (c_Me_hasRightCheckDigits  (hpI (hpI (hpI (hpI S 801 2 (if 400 < a then 400 else a)) 803 2 1) 810 2 0) 812 2 0) h13 hR14  q27 hq28) (Nat.le_of_ble_eq_true rfl) (Nat.le_of_ble_eq_true rfl) (Nat.le_of_ble_eq_true rfl) (Nat.le_of_ble_eq_true rfl) (pc' := 47) rfl (fun r30 h32 z31 => ?_)
      obtain ⟨rfl, z34⟩ := z31; rw [z34]
      show am_S _ _ _ _ _ _ _ (47, [some (.ref 2), some (.int a)], [.int q27], h13, 0, 0) _
      refine am_steps ok_Me_read 1 (x' := (if ¬ (q27 : Int32) = 0 then 52 else 50, [some (.ref 2), some (.int a)], [], h13, 0, 0)) rfl (Nat.le_of_ble_eq_true rfl) (Nat.le_of_ble_eq_true rfl) ?_
      refine am_if (fun hc35 => ?_) (fun hc35 => ?_)
      · rw [if_pos hc35] at hd
        refine am_steps ok_Me_read 2 (x' := (54, [some (.ref 2), some (.int a)], [.ref 2, .ref 2], h13, 0, 0)) rfl (Nat.le_of_ble_eq_true rfl) (Nat.le_of_ble_eq_true rfl) ?_
        obtain ⟨q36, hq37, hd38⟩ := Option.bind_eq_some_iff.mp hd; clear hd; have hd := hd38; clear hd38
        refine ar_cv ok_Me_read hk_Me_readKind rfl rfl (As := []) (ad := 2) (rest := [.ref 2]) rfl rfl (hR14.ob (hs_k hR14 (a := 2) rfl) (Nat.le_of_ble_eq_true rfl)) (Nat.le_of_ble_eq_true rfl) (c_Me_readKind  (hpI (hpI (hpI (hpI S 801 2 (if 400 < a then 400 else a)) 803 2 1) 810 2 0) 812 2 0) h13 hR14  q36 hq37) (Nat.le_of_ble_eq_true rfl) (Nat.le_of_ble_eq_true rfl) (Nat.le_of_ble_eq_true rfl) (Nat.le_of_ble_eq_true rfl) (pc' := 57) rfl (fun r39 h41 z40 => ?_)
        obtain ⟨rfl, hR43, g44, e45⟩ := z40
        have f46 := hF.tr f16 g44
        show am_S _ _ _ _ _ _ _ (57, [some (.ref 2), some (.int a)], [.int q36.1, .ref 2], h41, 0, 0) _
        refine hr_put ok_Me_read rfl hR43 (kd := 8) (hs_k hR43 (a := 2) rfl) rfl (Nat.le_of_ble_eq_true rfl) (Nat.le_of_ble_eq_true rfl) rfl (S' := (hpI q36.2 804 2 q36.1)) rfl (hWT.up hR43.2.2 rfl rfl rfl) (pc' := 60) rfl (Nat.le_of_ble_eq_true rfl) (Nat.le_of_ble_eq_true rfl) (fun h47 hR48 g49 => ?_)
        have f50 := hF.tr f46 g49
        refine am_steps ok_Me_read 3 (x' := (63, [some (.ref 2), some (.int a)], [.int 4, .ref 2, .ref 2], h47, 0, 0)) rfl (Nat.le_of_ble_eq_true rfl) (Nat.le_of_ble_eq_true rfl) ?_
        obtain ⟨q51, hq52, hd53⟩ := Option.bind_eq_some_iff.mp hd; clear hd; have hd := hd53; clear hd53
        refine ar_cv ok_Me_read hk_Me_readCode rfl rfl (As := [.int 4]) (ad := 2) (rest := [.ref 2]) rfl rfl (hR48.ob (hs_k hR48 (a := 2) rfl) (Nat.le_of_ble_eq_true rfl)) (Nat.le_of_ble_eq_true rfl) (c_Me_readCode 4 (hpI q36.2 804 2 q36.1) h47 hR48  q51 hq52) (Nat.le_of_ble_eq_true rfl) (Nat.le_of_ble_eq_true rfl) (Nat.le_of_ble_eq_true rfl) (Nat.le_of_ble_eq_true rfl) (pc' := 66) rfl (fun r54 h56 z55 => ?_)
        obtain ⟨rfl, hR58, g59, e60⟩ := z55
        have f61 := hF.tr f50 g59
        show am_S _ _ _ _ _ _ _ (66, [some (.ref 2), some (.int a)], [.long q51.1, .ref 2], h56, 0, 0) _
        refine am_steps ok_Me_read 1 (x' := (67, [some (.ref 2), some (.int a)], [.int (Int64.toInt32 q51.1), .ref 2], h56, 0, 0)) rfl (Nat.le_of_ble_eq_true rfl) (Nat.le_of_ble_eq_true rfl) ?_
        refine hr_put ok_Me_read rfl hR58 (kd := 8) (hs_k hR58 (a := 2) rfl) rfl (Nat.le_of_ble_eq_true rfl) (Nat.le_of_ble_eq_true rfl) rfl (S' := (hpI q51.2 805 2 (Int64.toInt32 q51.1))) rfl (hWT.up hR58.2.2 rfl rfl rfl) (pc' := 70) rfl (Nat.le_of_ble_eq_true rfl) (Nat.le_of_ble_eq_true rfl) (fun h62 hR63 g64 => ?_)
        have f65 := hF.tr f61 g64
        refine am_steps ok_Me_read 3 (x' := (74, [some (.ref 2), some (.int a)], [.int 8, .ref 2, .ref 2], h62, 0, 0)) rfl (Nat.le_of_ble_eq_true rfl) (Nat.le_of_ble_eq_true rfl) ?_
        obtain ⟨q66, hq67, hd68⟩ := Option.bind_eq_some_iff.mp hd; clear hd; have hd := hd68; clear hd68
        refine ar_cv ok_Me_read hk_Me_readCode rfl rfl (As := [.int 8]) (ad := 2) (rest := [.ref 2]) rfl rfl (hR63.ob (hs_k hR63 (a := 2) rfl) (Nat.le_of_ble_eq_true rfl)) (Nat.le_of_ble_eq_true rfl) (c_Me_readCode 8 (hpI q51.2 805 2 (Int64.toInt32 q51.1)) h62 hR63  q66 hq67) (Nat.le_of_ble_eq_true rfl) (Nat.le_of_ble_eq_true rfl) (Nat.le_of_ble_eq_true rfl) (Nat.le_of_ble_eq_true rfl) (pc' := 77) rfl (fun r69 h71 z70 => ?_)
        obtain ⟨rfl, hR73, g74, e75⟩ := z70
        have f76 := hF.tr f65 g74
        show am_S _ _ _ _ _ _ _ (77, [some (.ref 2), some (.int a)], [.long q66.1, .ref 2], h71, 0, 0) _
        refine hr_put ok_Me_read rfl hR73 (kd := 8) (hs_k hR73 (a := 2) rfl) rfl (Nat.le_of_ble_eq_true rfl) (Nat.le_of_ble_eq_true rfl) rfl (S' := (hpL q66.2 806 2 q66.1)) rfl (hWT.up hR73.2.2 rfl rfl rfl) (pc' := 80) rfl (Nat.le_of_ble_eq_true rfl) (Nat.le_of_ble_eq_true rfl) (fun h77 hR78 g79 => ?_)
        have f80 := hF.tr f76 g79
        refine am_steps ok_Me_read 2 (x' := (82, [some (.ref 2), some (.int a)], [.ref 2, .ref 2], h77, 0, 0)) rfl (Nat.le_of_ble_eq_true rfl) (Nat.le_of_ble_eq_true rfl) ?_
        refine hr_get ok_Me_read rfl hR78 (kd := 8) (hs_k hR78 (a := 2) rfl) rfl (Nat.le_of_ble_eq_true rfl) (Nat.le_of_ble_eq_true rfl) (v := .int (q66.2.2.1 804 2)) rfl (pc' := 85) rfl (Nat.le_of_ble_eq_true rfl) (Nat.le_of_ble_eq_true rfl) ?_
        obtain ⟨q81, hq82, hd83⟩ := Option.bind_eq_some_iff.mp hd; clear hd; have hd := hd83; clear hd83
        refine am_call ok_Me_read hk_Me_fieldsOf rfl (args' := [.int (q66.2.2.1 804 2)]) (rest := [.ref 2]) rfl (c_Me_fieldsOf (q66.2.2.1 804 2) h77 q81 hq82) (Nat.le_of_ble_eq_true rfl) (Nat.le_of_ble_eq_true rfl) (Nat.le_of_ble_eq_true rfl) (Nat.le_of_ble_eq_true rfl) (fun r84 h86 z85 => ?_)
        obtain ⟨rfl, z88⟩ := z85; rw [z88]
        show am_S _ _ _ _ _ _ _ (88, [some (.ref 2), some (.int a)], [.ref (am_M + (10 + q81)), .ref 2], h77, 0, 0) _
        obtain ⟨q89, hq90, hd91⟩ := Option.bind_eq_some_iff.mp hd; clear hd; have hd := hd91; clear hd91
        refine ar_cv ok_Me_read hk_Me_readFields rfl rfl (As := [.ref (am_M + (10 + q81))]) (ad := 2) (rest := []) rfl rfl (hR78.ob (hs_k hR78 (a := 2) rfl) (Nat.le_of_ble_eq_true rfl)) (Nat.le_of_ble_eq_true rfl) (c_Me_readFields q81 (hpL q66.2 806 2 q66.1) h77 hR78  q89 hq90) (Nat.le_of_ble_eq_true rfl) (Nat.le_of_ble_eq_true rfl) (Nat.le_of_ble_eq_true rfl) (Nat.le_of_ble_eq_true rfl) (pc' := 91) rfl (fun r92 h94 z93 => ?_)
        obtain ⟨rfl, hR96, g97, e98⟩ := z93
        have f99 := hF.tr f80 g97
        show am_S _ _ _ _ _ _ _ (91, [some (.ref 2), some (.int a)], [], h94, 0, 0) _
        refine am_steps ok_Me_read 1 (x' := (92, [some (.ref 2), some (.int a)], [.ref 2], h94, 0, 0)) rfl (Nat.le_of_ble_eq_true rfl) (Nat.le_of_ble_eq_true rfl) ?_
        refine hr_get ok_Me_read rfl hR96 (kd := 8) (hs_k hR96 (a := 2) rfl) rfl (Nat.le_of_ble_eq_true rfl) (Nat.le_of_ble_eq_true rfl) (v := .int (q89.2.1 804 2)) rfl (pc' := 95) rfl (Nat.le_of_ble_eq_true rfl) (Nat.le_of_ble_eq_true rfl) ?_
        refine am_steps ok_Me_read 2 (x' := (if ¬ ((q89.2.1 804 2) : Int32) = 1 then 126 else 99, [some (.ref 2), some (.int a)], [], h94, 0, 0)) rfl (Nat.le_of_ble_eq_true rfl) (Nat.le_of_ble_eq_true rfl) ?_
        refine am_if (fun hc100 => ?_) (fun hc100 => ?_)
        · rw [if_pos hc100] at hd
          refine am_steps ok_Me_read 1 (x' := (127, [some (.ref 2), some (.int a)], [.ref 2], h94, 0, 0)) rfl (Nat.le_of_ble_eq_true rfl) (Nat.le_of_ble_eq_true rfl) ?_
          refine hr_get ok_Me_read rfl hR96 (kd := 8) (hs_k hR96 (a := 2) rfl) rfl (Nat.le_of_ble_eq_true rfl) (Nat.le_of_ble_eq_true rfl) (v := .int (q89.2.1 804 2)) rfl (pc' := 130) rfl (Nat.le_of_ble_eq_true rfl) (Nat.le_of_ble_eq_true rfl) ?_
          refine am_steps ok_Me_read 1 (x' := (if ((q89.2.1 804 2) : Int32) < 0 then 157 else 133, [some (.ref 2), some (.int a)], [], h94, 0, 0)) rfl (Nat.le_of_ble_eq_true rfl) (Nat.le_of_ble_eq_true rfl) ?_
          refine am_if (fun hc101 => ?_) (fun hc101 => ?_)
          · rw [if_pos hc101] at hd
            refine am_steps ok_Me_read 1 (x' := (158, [some (.ref 2), some (.int a)], [.int 0], h94, 0, 0)) rfl (Nat.le_of_ble_eq_true rfl) (Nat.le_of_ble_eq_true rfl) ?_
            cases hd; exact am_ret ok_Me_read rfl (Nat.le_of_ble_eq_true rfl) (Nat.le_of_ble_eq_true rfl) ⟨rfl, hR96, f99, ((((hE.rf.tr e45).tr e60).tr e75).tr e98)⟩
          · rw [if_neg hc101] at hd
            refine am_steps ok_Me_read 1 (x' := (134, [some (.ref 2), some (.int a)], [.ref 2], h94, 0, 0)) rfl (Nat.le_of_ble_eq_true rfl) (Nat.le_of_ble_eq_true rfl) ?_
            refine hr_get ok_Me_read rfl hR96 (kd := 8) (hs_k hR96 (a := 2) rfl) rfl (Nat.le_of_ble_eq_true rfl) (Nat.le_of_ble_eq_true rfl) (v := .int (q89.2.1 803 2)) rfl (pc' := 137) rfl (Nat.le_of_ble_eq_true rfl) (Nat.le_of_ble_eq_true rfl) ?_
            refine am_steps ok_Me_read 1 (x' := (if ((q89.2.1 803 2) : Int32) = 0 then 157 else 140, [some (.ref 2), some (.int a)], [], h94, 0, 0)) rfl (Nat.le_of_ble_eq_true rfl) (Nat.le_of_ble_eq_true rfl) ?_
            refine am_if (fun hc102 => ?_) (fun hc102 => ?_)
            · rw [if_pos hc102] at hd
              refine am_steps ok_Me_read 1 (x' := (158, [some (.ref 2), some (.int a)], [.int 0], h94, 0, 0)) rfl (Nat.le_of_ble_eq_true rfl) (Nat.le_of_ble_eq_true rfl) ?_
              cases hd; exact am_ret ok_Me_read rfl (Nat.le_of_ble_eq_true rfl) (Nat.le_of_ble_eq_true rfl) ⟨rfl, hR96, f99, ((((hE.rf.tr e45).tr e60).tr e75).tr e98)⟩
            · rw [if_neg hc102] at hd
              refine am_steps ok_Me_read 1 (x' := (141, [some (.ref 2), some (.int a)], [.ref 2], h94, 0, 0)) rfl (Nat.le_of_ble_eq_true rfl) (Nat.le_of_ble_eq_true rfl) ?_
              refine hr_get ok_Me_read rfl hR96 (kd := 8) (hs_k hR96 (a := 2) rfl) rfl (Nat.le_of_ble_eq_true rfl) (Nat.le_of_ble_eq_true rfl) (v := .int (q89.2.1 802 2)) rfl (pc' := 144) rfl (Nat.le_of_ble_eq_true rfl) (Nat.le_of_ble_eq_true rfl) ?_
              refine am_steps ok_Me_read 1 (x' := (145, [some (.ref 2), some (.int a)], [.ref 2, .int (q89.2.1 802 2)], h94, 0, 0)) rfl (Nat.le_of_ble_eq_true rfl) (Nat.le_of_ble_eq_true rfl) ?_
              refine hr_get ok_Me_read rfl hR96 (kd := 8) (hs_k hR96 (a := 2) rfl) rfl (Nat.le_of_ble_eq_true rfl) (Nat.le_of_ble_eq_true rfl) (v := .int (q89.2.1 801 2)) rfl (pc' := 148) rfl (Nat.le_of_ble_eq_true rfl) (Nat.le_of_ble_eq_true rfl) ?_
              refine am_steps ok_Me_read 3 (x' := (if ¬ ((q89.2.1 802 2) : Int32) = ((q89.2.1 801 2) - 2) then 157 else 153, [some (.ref 2), some (.int a)], [], h94, 0, 0)) rfl (Nat.le_of_ble_eq_true rfl) (Nat.le_of_ble_eq_true rfl) ?_
              refine am_if (fun hc103 => ?_) (fun hc103 => ?_)
              · rw [if_pos hc103] at hd
                refine am_steps ok_Me_read 1 (x' := (158, [some (.ref 2), some (.int a)], [.int 0], h94, 0, 0)) rfl (Nat.le_of_ble_eq_true rfl) (Nat.le_of_ble_eq_true rfl) ?_
                cases hd; exact am_ret ok_Me_read rfl (Nat.le_of_ble_eq_true rfl) (Nat.le_of_ble_eq_true rfl) ⟨rfl, hR96, f99, ((((hE.rf.tr e45).tr e60).tr e75).tr e98)⟩
              · rw [if_neg hc103] at hd
                refine am_steps ok_Me_read 2 (x' := (158, [some (.ref 2), some (.int a)], [.int 1], h94, 0, 0)) rfl (Nat.le_of_ble_eq_true rfl) (Nat.le_of_ble_eq_true rfl) ?_
                cases hd; exact am_ret ok_Me_read rfl (Nat.le_of_ble_eq_true rfl) (Nat.le_of_ble_eq_true rfl) ⟨rfl, hR96, f99, ((((hE.rf.tr e45).tr e60).tr e75).tr e98)⟩
        · rw [if_neg hc100] at hd
          refine am_steps ok_Me_read 1 (x' := (100, [some (.ref 2), some (.int a)], [.ref 2], h94, 0, 0)) rfl (Nat.le_of_ble_eq_true rfl) (Nat.le_of_ble_eq_true rfl) ?_
          refine hr_get ok_Me_read rfl hR96 (kd := 8) (hs_k hR96 (a := 2) rfl) rfl (Nat.le_of_ble_eq_true rfl) (Nat.le_of_ble_eq_true rfl) (v := .int (q89.2.1 815 2)) rfl (pc' := 103) rfl (Nat.le_of_ble_eq_true rfl) (Nat.le_of_ble_eq_true rfl) ?_
          refine am_steps ok_Me_read 1 (x' := (if ¬ ((q89.2.1 815 2) : Int32) = 0 then 126 else 106, [some (.ref 2), some (.int a)], [], h94, 0, 0)) rfl (Nat.le_of_ble_eq_true rfl) (Nat.le_of_ble_eq_true rfl) ?_
          refine am_if (fun hc104 => ?_) (fun hc104 => ?_)
          · rw [if_pos hc104] at hd
            refine am_steps ok_Me_read 1 (x' := (127, [some (.ref 2), some (.int a)], [.ref 2], h94, 0, 0)) rfl (Nat.le_of_ble_eq_true rfl) (Nat.le_of_ble_eq_true rfl) ?_
            refine hr_get ok_Me_read rfl hR96 (kd := 8) (hs_k hR96 (a := 2) rfl) rfl (Nat.le_of_ble_eq_true rfl) (Nat.le_of_ble_eq_true rfl) (v := .int (q89.2.1 804 2)) rfl (pc' := 130) rfl (Nat.le_of_ble_eq_true rfl) (Nat.le_of_ble_eq_true rfl) ?_
            refine am_steps ok_Me_read 1 (x' := (if ((q89.2.1 804 2) : Int32) < 0 then 157 else 133, [some (.ref 2), some (.int a)], [], h94, 0, 0)) rfl (Nat.le_of_ble_eq_true rfl) (Nat.le_of_ble_eq_true rfl) ?_
            refine am_if (fun hc105 => ?_) (fun hc105 => ?_)
            · rw [if_pos hc105] at hd
              refine am_steps ok_Me_read 1 (x' := (158, [some (.ref 2), some (.int a)], [.int 0], h94, 0, 0)) rfl (Nat.le_of_ble_eq_true rfl) (Nat.le_of_ble_eq_true rfl) ?_
              cases hd; exact am_ret ok_Me_read rfl (Nat.le_of_ble_eq_true rfl) (Nat.le_of_ble_eq_true rfl) ⟨rfl, hR96, f99, ((((hE.rf.tr e45).tr e60).tr e75).tr e98)⟩
            · rw [if_neg hc105] at hd
              refine am_steps ok_Me_read 1 (x' := (134, [some (.ref 2), some (.int a)], [.ref 2], h94, 0, 0)) rfl (Nat.le_of_ble_eq_true rfl) (Nat.le_of_ble_eq_true rfl) ?_
              refine hr_get ok_Me_read rfl hR96 (kd := 8) (hs_k hR96 (a := 2) rfl) rfl (Nat.le_of_ble_eq_true rfl) (Nat.le_of_ble_eq_true rfl) (v := .int (q89.2.1 803 2)) rfl (pc' := 137) rfl (Nat.le_of_ble_eq_true rfl) (Nat.le_of_ble_eq_true rfl) ?_
              refine am_steps ok_Me_read 1 (x' := (if ((q89.2.1 803 2) : Int32) = 0 then 157 else 140, [some (.ref 2), some (.int a)], [], h94, 0, 0)) rfl (Nat.le_of_ble_eq_true rfl) (Nat.le_of_ble_eq_true rfl) ?_
              refine am_if (fun hc106 => ?_) (fun hc106 => ?_)
              · rw [if_pos hc106] at hd
                refine am_steps ok_Me_read 1 (x' := (158, [some (.ref 2), some (.int a)], [.int 0], h94, 0, 0)) rfl (Nat.le_of_ble_eq_true rfl) (Nat.le_of_ble_eq_true rfl) ?_
                cases hd; exact am_ret ok_Me_read rfl (Nat.le_of_ble_eq_true rfl) (Nat.le_of_ble_eq_true rfl) ⟨rfl, hR96, f99, ((((hE.rf.tr e45).tr e60).tr e75).tr e98)⟩
              · rw [if_neg hc106] at hd
                refine am_steps ok_Me_read 1 (x' := (141, [some (.ref 2), some (.int a)], [.ref 2], h94, 0, 0)) rfl (Nat.le_of_ble_eq_true rfl) (Nat.le_of_ble_eq_true rfl) ?_
                refine hr_get ok_Me_read rfl hR96 (kd := 8) (hs_k hR96 (a := 2) rfl) rfl (Nat.le_of_ble_eq_true rfl) (Nat.le_of_ble_eq_true rfl) (v := .int (q89.2.1 802 2)) rfl (pc' := 144) rfl (Nat.le_of_ble_eq_true rfl) (Nat.le_of_ble_eq_true rfl) ?_
                refine am_steps ok_Me_read 1 (x' := (145, [some (.ref 2), some (.int a)], [.ref 2, .int (q89.2.1 802 2)], h94, 0, 0)) rfl (Nat.le_of_ble_eq_true rfl) (Nat.le_of_ble_eq_true rfl) ?_
                refine hr_get ok_Me_read rfl hR96 (kd := 8) (hs_k hR96 (a := 2) rfl) rfl (Nat.le_of_ble_eq_true rfl) (Nat.le_of_ble_eq_true rfl) (v := .int (q89.2.1 801 2)) rfl (pc' := 148) rfl (Nat.le_of_ble_eq_true rfl) (Nat.le_of_ble_eq_true rfl) ?_
                refine am_steps ok_Me_read 3 (x' := (if ¬ ((q89.2.1 802 2) : Int32) = ((q89.2.1 801 2) - 2) then 157 else 153, [some (.ref 2), some (.int a)], [], h94, 0, 0)) rfl (Nat.le_of_ble_eq_true rfl) (Nat.le_of_ble_eq_true rfl) ?_
                refine am_if (fun hc107 => ?_) (fun hc107 => ?_)
                · rw [if_pos hc107] at hd
                  refine am_steps ok_Me_read 1 (x' := (158, [some (.ref 2), some (.int a)], [.int 0], h94, 0, 0)) rfl (Nat.le_of_ble_eq_true rfl) (Nat.le_of_ble_eq_true rfl) ?_
                  cases hd; exact am_ret ok_Me_read rfl (Nat.le_of_ble_eq_true rfl) (Nat.le_of_ble_eq_true rfl) ⟨rfl, hR96, f99, ((((hE.rf.tr e45).tr e60).tr e75).tr e98)⟩
                · rw [if_neg hc107] at hd
                  refine am_steps ok_Me_read 2 (x' := (158, [some (.ref 2), some (.int a)], [.int 1], h94, 0, 0)) rfl (Nat.le_of_ble_eq_true rfl) (Nat.le_of_ble_eq_true rfl) ?_
                  cases hd; exact am_ret ok_Me_read rfl (Nat.le_of_ble_eq_true rfl) (Nat.le_of_ble_eq_true rfl) ⟨rfl, hR96, f99, ((((hE.rf.tr e45).tr e60).tr e75).tr e98)⟩
          · rw [if_neg hc104] at hd
            refine am_steps ok_Me_read 1 (x' := (107, [some (.ref 2), some (.int a)], [.ref 2], h94, 0, 0)) rfl (Nat.le_of_ble_eq_true rfl) (Nat.le_of_ble_eq_true rfl) ?_
            refine hr_get ok_Me_read rfl hR96 (kd := 8) (hs_k hR96 (a := 2) rfl) rfl (Nat.le_of_ble_eq_true rfl) (Nat.le_of_ble_eq_true rfl) (v := .ref 6) (congrArg va_rf (hR96.2.2.2.2.1 (811, 2, 6) (by decide))) (pc' := 110) rfl (Nat.le_of_ble_eq_true rfl) (Nat.le_of_ble_eq_true rfl) ?_
            refine am_steps ok_Me_read 1 (x' := (111, [some (.ref 2), some (.int a)], [.int 0, .ref 6], h94, 0, 0)) rfl (Nat.le_of_ble_eq_true rfl) (Nat.le_of_ble_eq_true rfl) ?_
            obtain ⟨j108, hx109, hd110⟩ := Option.bind_eq_some_iff.mp hd; clear hd; have hd := hd110; clear hd110
            refine hr_lald ok_Me_read rfl hR96 (hs_k hR96 (a := 6) rfl) (hs_ln hR96 rfl) hx109 (pc' := 112) rfl (Nat.le_of_ble_eq_true rfl) (Nat.le_of_ble_eq_true rfl) ?_
            refine am_steps ok_Me_read 3 (x' := (if ¬ ((lg_cmp (q89.2.2.2.2.2.1 6 j108) 0) : Int32) = 0 then 124 else 117, [some (.ref 2), some (.int a)], [], h94, 0, 0)) rfl (Nat.le_of_ble_eq_true rfl) (Nat.le_of_ble_eq_true rfl) ?_
            refine am_if (fun hc111 => ?_) (fun hc111 => ?_)
            · rw [if_pos hc111] at hd
              refine am_steps ok_Me_read 1 (x' := (125, [some (.ref 2), some (.int a)], [.int 0], h94, 0, 0)) rfl (Nat.le_of_ble_eq_true rfl) (Nat.le_of_ble_eq_true rfl) ?_
              cases hd; exact am_ret ok_Me_read rfl (Nat.le_of_ble_eq_true rfl) (Nat.le_of_ble_eq_true rfl) ⟨rfl, hR96, f99, ((((hE.rf.tr e45).tr e60).tr e75).tr e98)⟩
            · rw [if_neg hc111] at hd
              refine am_steps ok_Me_read 1 (x' := (118, [some (.ref 2), some (.int a)], [.ref 2], h94, 0, 0)) rfl (Nat.le_of_ble_eq_true rfl) (Nat.le_of_ble_eq_true rfl) ?_
              refine hr_get ok_Me_read rfl hR96 (kd := 8) (hs_k hR96 (a := 2) rfl) rfl (Nat.le_of_ble_eq_true rfl) (Nat.le_of_ble_eq_true rfl) (v := .int (q89.2.1 816 2)) rfl (pc' := 121) rfl (Nat.le_of_ble_eq_true rfl) (Nat.le_of_ble_eq_true rfl) ?_
              refine am_steps ok_Me_read 1 (x' := (if ((q89.2.1 816 2) : Int32) = 0 then 126 else 124, [some (.ref 2), some (.int a)], [], h94, 0, 0)) rfl (Nat.le_of_ble_eq_true rfl) (Nat.le_of_ble_eq_true rfl) ?_
              refine am_if (fun hc112 => ?_) (fun hc112 => ?_)
              · rw [if_pos hc112] at hd
                refine am_steps ok_Me_read 1 (x' := (127, [some (.ref 2), some (.int a)], [.ref 2], h94, 0, 0)) rfl (Nat.le_of_ble_eq_true rfl) (Nat.le_of_ble_eq_true rfl) ?_
                refine hr_get ok_Me_read rfl hR96 (kd := 8) (hs_k hR96 (a := 2) rfl) rfl (Nat.le_of_ble_eq_true rfl) (Nat.le_of_ble_eq_true rfl) (v := .int (q89.2.1 804 2)) rfl (pc' := 130) rfl (Nat.le_of_ble_eq_true rfl) (Nat.le_of_ble_eq_true rfl) ?_
                refine am_steps ok_Me_read 1 (x' := (if ((q89.2.1 804 2) : Int32) < 0 then 157 else 133, [some (.ref 2), some (.int a)], [], h94, 0, 0)) rfl (Nat.le_of_ble_eq_true rfl) (Nat.le_of_ble_eq_true rfl) ?_
                refine am_if (fun hc113 => ?_) (fun hc113 => ?_)
                · rw [if_pos hc113] at hd
                  refine am_steps ok_Me_read 1 (x' := (158, [some (.ref 2), some (.int a)], [.int 0], h94, 0, 0)) rfl (Nat.le_of_ble_eq_true rfl) (Nat.le_of_ble_eq_true rfl) ?_
                  cases hd; exact am_ret ok_Me_read rfl (Nat.le_of_ble_eq_true rfl) (Nat.le_of_ble_eq_true rfl) ⟨rfl, hR96, f99, ((((hE.rf.tr e45).tr e60).tr e75).tr e98)⟩
                · rw [if_neg hc113] at hd
                  refine am_steps ok_Me_read 1 (x' := (134, [some (.ref 2), some (.int a)], [.ref 2], h94, 0, 0)) rfl (Nat.le_of_ble_eq_true rfl) (Nat.le_of_ble_eq_true rfl) ?_
                  refine hr_get ok_Me_read rfl hR96 (kd := 8) (hs_k hR96 (a := 2) rfl) rfl (Nat.le_of_ble_eq_true rfl) (Nat.le_of_ble_eq_true rfl) (v := .int (q89.2.1 803 2)) rfl (pc' := 137) rfl (Nat.le_of_ble_eq_true rfl) (Nat.le_of_ble_eq_true rfl) ?_
                  refine am_steps ok_Me_read 1 (x' := (if ((q89.2.1 803 2) : Int32) = 0 then 157 else 140, [some (.ref 2), some (.int a)], [], h94, 0, 0)) rfl (Nat.le_of_ble_eq_true rfl) (Nat.le_of_ble_eq_true rfl) ?_
                  refine am_if (fun hc114 => ?_) (fun hc114 => ?_)
                  · rw [if_pos hc114] at hd
                    refine am_steps ok_Me_read 1 (x' := (158, [some (.ref 2), some (.int a)], [.int 0], h94, 0, 0)) rfl (Nat.le_of_ble_eq_true rfl) (Nat.le_of_ble_eq_true rfl) ?_
                    cases hd; exact am_ret ok_Me_read rfl (Nat.le_of_ble_eq_true rfl) (Nat.le_of_ble_eq_true rfl) ⟨rfl, hR96, f99, ((((hE.rf.tr e45).tr e60).tr e75).tr e98)⟩
                  · rw [if_neg hc114] at hd
                    refine am_steps ok_Me_read 1 (x' := (141, [some (.ref 2), some (.int a)], [.ref 2], h94, 0, 0)) rfl (Nat.le_of_ble_eq_true rfl) (Nat.le_of_ble_eq_true rfl) ?_
                    refine hr_get ok_Me_read rfl hR96 (kd := 8) (hs_k hR96 (a := 2) rfl) rfl (Nat.le_of_ble_eq_true rfl) (Nat.le_of_ble_eq_true rfl) (v := .int (q89.2.1 802 2)) rfl (pc' := 144) rfl (Nat.le_of_ble_eq_true rfl) (Nat.le_of_ble_eq_true rfl) ?_
                    refine am_steps ok_Me_read 1 (x' := (145, [some (.ref 2), some (.int a)], [.ref 2, .int (q89.2.1 802 2)], h94, 0, 0)) rfl (Nat.le_of_ble_eq_true rfl) (Nat.le_of_ble_eq_true rfl) ?_
                    refine hr_get ok_Me_read rfl hR96 (kd := 8) (hs_k hR96 (a := 2) rfl) rfl (Nat.le_of_ble_eq_true rfl) (Nat.le_of_ble_eq_true rfl) (v := .int (q89.2.1 801 2)) rfl (pc' := 148) rfl (Nat.le_of_ble_eq_true rfl) (Nat.le_of_ble_eq_true rfl) ?_
                    refine am_steps ok_Me_read 3 (x' := (if ¬ ((q89.2.1 802 2) : Int32) = ((q89.2.1 801 2) - 2) then 157 else 153, [some (.ref 2), some (.int a)], [], h94, 0, 0)) rfl (Nat.le_of_ble_eq_true rfl) (Nat.le_of_ble_eq_true rfl) ?_
                    refine am_if (fun hc115 => ?_) (fun hc115 => ?_)
                    · rw [if_pos hc115] at hd
                      refine am_steps ok_Me_read 1 (x' := (158, [some (.ref 2), some (.int a)], [.int 0], h94, 0, 0)) rfl (Nat.le_of_ble_eq_true rfl) (Nat.le_of_ble_eq_true rfl) ?_
                      cases hd; exact am_ret ok_Me_read rfl (Nat.le_of_ble_eq_true rfl) (Nat.le_of_ble_eq_true rfl) ⟨rfl, hR96, f99, ((((hE.rf.tr e45).tr e60).tr e75).tr e98)⟩
                    · rw [if_neg hc115] at hd
                      refine am_steps ok_Me_read 2 (x' := (158, [some (.ref 2), some (.int a)], [.int 1], h94, 0, 0)) rfl (Nat.le_of_ble_eq_true rfl) (Nat.le_of_ble_eq_true rfl) ?_
                      cases hd; exact am_ret ok_Me_read rfl (Nat.le_of_ble_eq_true rfl) (Nat.le_of_ble_eq_true rfl) ⟨rfl, hR96, f99, ((((hE.rf.tr e45).tr e60).tr e75).tr e98)⟩
              · rw [if_neg hc112] at hd
                refine am_steps ok_Me_read 1 (x' := (125, [some (.ref 2), some (.int a)], [.int 0], h94, 0, 0)) rfl (Nat.le_of_ble_eq_true rfl) (Nat.le_of_ble_eq_true rfl) ?_
                cases hd; exact am_ret ok_Me_read rfl (Nat.le_of_ble_eq_true rfl) (Nat.le_of_ble_eq_true rfl) ⟨rfl, hR96, f99, ((((hE.rf.tr e45).tr e60).tr e75).tr e98)⟩
      · rw [if_neg hc35] at hd
        refine am_steps ok_Me_read 1 (x' := (51, [some (.ref 2), some (.int a)], [.int 0], h13, 0, 0)) rfl (Nat.le_of_ble_eq_true rfl) (Nat.le_of_ble_eq_true rfl) ?_
        cases hd; exact am_ret ok_Me_read rfl (Nat.le_of_ble_eq_true rfl) (Nat.le_of_ble_eq_true rfl) ⟨rfl, hR14, f16, hE.rf⟩
def hl_Bo_findParticipant_2 : Nat → Int32 → Int32 → hS → Option (Int32)
  | 0, _, _, _ => none
  | fu + 1, v1, v2, s => if ((s.2.1 401 10) : Int32) ≤ v2 then (some (-1)) else ((am_ix v2 256).bind fun j2 => (((s.2.2.2.2.2.2 11 j2)).bind fun b5 => (if ¬ ((s.2.1 900 b5) : Int32) = v1 then (hl_Bo_findParticipant_2 fu v1 (v2 + 1) s) else (some v2))))
set_option maxHeartbeats 4000000 in
set_option maxRecDepth 100000 in
theorem Lc_Bo_findParticipant_2 (s : hS) (h : am_H) (hR : RH s h) : ∀ (fu : Nat) (v1 : Int32) (v2 : Int32), ∀ (q : Int32), hl_Bo_findParticipant_2 fu v1 v2 s = some q → am_S am_Pr none 0 0 0 0 108 (2, [some (.ref 10), some (.int v1), some (.int v2)], [], h, 0, 0) (am_is (some (.int q)) h) := by
  intro fu
  induction fu with
  | zero => intro v1 v2  q hd; cases hd
  | succ fu ih =>
    intro v1 v2  q hd
    unfold hl_Bo_findParticipant_2 at hd
    refine am_steps ok_Bo_findParticipant 2 (x' := (4, [some (.ref 10), some (.int v1), some (.int v2)], [.ref 10, .int v2], h, 0, 0)) rfl (Nat.le_of_ble_eq_true rfl) (Nat.le_of_ble_eq_true rfl) ?_
    refine hr_get ok_Bo_findParticipant rfl hR (kd := 4) (hs_k hR (a := 10) rfl) rfl (Nat.le_of_ble_eq_true rfl) (Nat.le_of_ble_eq_true rfl) (v := .int (s.2.1 401 10)) rfl (pc' := 7) rfl (Nat.le_of_ble_eq_true rfl) (Nat.le_of_ble_eq_true rfl) ?_
    refine am_steps ok_Bo_findParticipant 1 (x' := (if ((s.2.1 401 10) : Int32) ≤ v2 then 31 else 10, [some (.ref 10), some (.int v1), some (.int v2)], [], h, 0, 0)) rfl (Nat.le_of_ble_eq_true rfl) (Nat.le_of_ble_eq_true rfl) ?_
    refine am_if (fun hc1 => ?_) (fun hc1 => ?_)
    · rw [if_pos hc1] at hd
      refine am_steps ok_Bo_findParticipant 1 (x' := (32, [some (.ref 10), some (.int v1), some (.int v2)], [.int (-1)], h, 0, 0)) rfl (Nat.le_of_ble_eq_true rfl) (Nat.le_of_ble_eq_true rfl) ?_
      cases hd; exact am_ret ok_Bo_findParticipant rfl (Nat.le_of_ble_eq_true rfl) (Nat.le_of_ble_eq_true rfl) ⟨rfl, rfl⟩
    · rw [if_neg hc1] at hd
      refine am_steps ok_Bo_findParticipant 1 (x' := (11, [some (.ref 10), some (.int v1), some (.int v2)], [.ref 10], h, 0, 0)) rfl (Nat.le_of_ble_eq_true rfl) (Nat.le_of_ble_eq_true rfl) ?_
      refine hr_get ok_Bo_findParticipant rfl hR (kd := 4) (hs_k hR (a := 10) rfl) rfl (Nat.le_of_ble_eq_true rfl) (Nat.le_of_ble_eq_true rfl) (v := .ref 11) (congrArg va_rf (hR.2.2.2.2.1 (400, 10, 11) (by decide))) (pc' := 14) rfl (Nat.le_of_ble_eq_true rfl) (Nat.le_of_ble_eq_true rfl) ?_
      refine am_steps ok_Bo_findParticipant 1 (x' := (15, [some (.ref 10), some (.int v1), some (.int v2)], [.int v2, .ref 11], h, 0, 0)) rfl (Nat.le_of_ble_eq_true rfl) (Nat.le_of_ble_eq_true rfl) ?_
      obtain ⟨j2, hx3, hd4⟩ := Option.bind_eq_some_iff.mp hd; clear hd; have hd := hd4; clear hd4
      refine hr_aald ok_Bo_findParticipant rfl hR (kd := 24) (hs_k hR (a := 11) rfl) (by decide) (hs_ln hR rfl) hx3 (pc' := 16) rfl (Nat.le_of_ble_eq_true rfl) (Nat.le_of_ble_eq_true rfl) ?_
      obtain ⟨b5, hb6, hd7⟩ := Option.bind_eq_some_iff.mp hd; clear hd; have hd := hd7; clear hd7
      have hk8 := (fun b hb => hR.2.2.2.1 _ _ (hK.ln (hs_k hR (a := 11) rfl)) _ b hb) b5 hb6
      rw [hb6]
      show am_S _ _ _ _ _ _ _ (16, [some (.ref 10), some (.int v1), some (.int v2)], [.ref b5], h, 0, 0) _
      refine hr_get ok_Bo_findParticipant rfl hR (kd := 9) hk8 rfl (Nat.le_of_ble_eq_true rfl) (Nat.le_of_ble_eq_true rfl) (v := .int (s.2.1 900 b5)) rfl (pc' := 19) rfl (Nat.le_of_ble_eq_true rfl) (Nat.le_of_ble_eq_true rfl) ?_
      refine am_steps ok_Bo_findParticipant 2 (x' := (if ¬ ((s.2.1 900 b5) : Int32) = v1 then 25 else 23, [some (.ref 10), some (.int v1), some (.int v2)], [], h, 0, 0)) rfl (Nat.le_of_ble_eq_true rfl) (Nat.le_of_ble_eq_true rfl) ?_
      refine am_if (fun hc9 => ?_) (fun hc9 => ?_)
      · rw [if_pos hc9] at hd
        refine am_steps ok_Bo_findParticipant 2 (x' := (2, [some (.ref 10), some (.int v1), some (.int (v2 + 1))], [], h, 0, 0)) rfl (Nat.le_of_ble_eq_true rfl) (Nat.le_of_ble_eq_true rfl) ?_
        exact ih v1 (v2 + 1)  q hd
      · rw [if_neg hc9] at hd
        refine am_steps ok_Bo_findParticipant 1 (x' := (24, [some (.ref 10), some (.int v1), some (.int v2)], [.int v2], h, 0, 0)) rfl (Nat.le_of_ble_eq_true rfl) (Nat.le_of_ble_eq_true rfl) ?_
        cases hd; exact am_ret ok_Bo_findParticipant rfl (Nat.le_of_ble_eq_true rfl) (Nat.le_of_ble_eq_true rfl) ⟨rfl, rfl⟩
def h_Bo_findParticipant (a : Int32) (S : hS) : Option (Int32) := hl_Bo_findParticipant_2 100000 a 0 S
set_option maxHeartbeats 4000000 in
set_option maxRecDepth 100000 in
theorem c_Bo_findParticipant (a : Int32) (S : hS) (h0 : am_H) (hR : RH S h0)  (q : Int32) (hd : h_Bo_findParticipant a S = some q) : am_Me am_Pr none 0 0 0 0 108 [.ref 10, .int a] h0 (am_is (some (.int q)) h0) := by
  refine am_enter (d := hd_Bo_findParticipant) rfl (by decide +kernel) (Nat.le_of_ble_eq_true rfl) ?_
  show am_S _ _ _ _ _ _ _ (0, [some (.ref 10), some (.int a), none], [], h0, 0, 0) _
  unfold h_Bo_findParticipant at hd
  refine am_steps ok_Bo_findParticipant 2 (x' := (2, [some (.ref 10), some (.int a), some (.int 0)], [], h0, 0, 0)) rfl (Nat.le_of_ble_eq_true rfl) (Nat.le_of_ble_eq_true rfl) ?_
  exact Lc_Bo_findParticipant_2 S h0 hR 100000 a 0  q hd
def h_Me_isOfBankAlone  (S : hS) : Option (Int32) := if ((S.2.1 804 2) : Int32) = 0 then (some 1) else (if ((S.2.1 804 2) : Int32) = 1 then (some 1) else (if ((S.2.1 804 2) : Int32) = 2 then (some 1) else (if ((S.2.1 804 2) : Int32) = 3 then (some 1) else (if ((S.2.1 804 2) : Int32) = 4 then (some 1) else (if ¬ ((S.2.1 804 2) : Int32) = 13 then (some 0) else (some 1))))))
set_option maxHeartbeats 4000000 in
set_option maxRecDepth 100000 in
theorem c_Me_isOfBankAlone  (S : hS) (h0 : am_H) (hR : RH S h0)  (q : Int32) (hd : h_Me_isOfBankAlone  S = some q) : am_Me am_Pr none 0 0 0 0 185 [.ref 2] h0 (am_is (some (.int q)) h0) := by
  refine am_enter (d := hd_Me_isOfBankAlone) rfl (by decide +kernel) (Nat.le_of_ble_eq_true rfl) ?_
  show am_S _ _ _ _ _ _ _ (0, [some (.ref 2)], [], h0, 0, 0) _
  unfold h_Me_isOfBankAlone at hd
  refine am_steps ok_Me_isOfBankAlone 1 (x' := (1, [some (.ref 2)], [.ref 2], h0, 0, 0)) rfl (Nat.le_of_ble_eq_true rfl) (Nat.le_of_ble_eq_true rfl) ?_
  refine hr_get ok_Me_isOfBankAlone rfl hR (kd := 8) (hs_k hR (a := 2) rfl) rfl (Nat.le_of_ble_eq_true rfl) (Nat.le_of_ble_eq_true rfl) (v := .int (S.2.1 804 2)) rfl (pc' := 4) rfl (Nat.le_of_ble_eq_true rfl) (Nat.le_of_ble_eq_true rfl) ?_
  refine am_steps ok_Me_isOfBankAlone 1 (x' := (if ((S.2.1 804 2) : Int32) = 0 then 48 else 7, [some (.ref 2)], [], h0, 0, 0)) rfl (Nat.le_of_ble_eq_true rfl) (Nat.le_of_ble_eq_true rfl) ?_
  refine am_if (fun hc1 => ?_) (fun hc1 => ?_)
  · rw [if_pos hc1] at hd
    refine am_steps ok_Me_isOfBankAlone 2 (x' := (53, [some (.ref 2)], [.int 1], h0, 0, 0)) rfl (Nat.le_of_ble_eq_true rfl) (Nat.le_of_ble_eq_true rfl) ?_
    cases hd; exact am_ret ok_Me_isOfBankAlone rfl (Nat.le_of_ble_eq_true rfl) (Nat.le_of_ble_eq_true rfl) ⟨rfl, rfl⟩
  · rw [if_neg hc1] at hd
    refine am_steps ok_Me_isOfBankAlone 1 (x' := (8, [some (.ref 2)], [.ref 2], h0, 0, 0)) rfl (Nat.le_of_ble_eq_true rfl) (Nat.le_of_ble_eq_true rfl) ?_
    refine hr_get ok_Me_isOfBankAlone rfl hR (kd := 8) (hs_k hR (a := 2) rfl) rfl (Nat.le_of_ble_eq_true rfl) (Nat.le_of_ble_eq_true rfl) (v := .int (S.2.1 804 2)) rfl (pc' := 11) rfl (Nat.le_of_ble_eq_true rfl) (Nat.le_of_ble_eq_true rfl) ?_
    refine am_steps ok_Me_isOfBankAlone 2 (x' := (if ((S.2.1 804 2) : Int32) = 1 then 48 else 15, [some (.ref 2)], [], h0, 0, 0)) rfl (Nat.le_of_ble_eq_true rfl) (Nat.le_of_ble_eq_true rfl) ?_
    refine am_if (fun hc2 => ?_) (fun hc2 => ?_)
    · rw [if_pos hc2] at hd
      refine am_steps ok_Me_isOfBankAlone 2 (x' := (53, [some (.ref 2)], [.int 1], h0, 0, 0)) rfl (Nat.le_of_ble_eq_true rfl) (Nat.le_of_ble_eq_true rfl) ?_
      cases hd; exact am_ret ok_Me_isOfBankAlone rfl (Nat.le_of_ble_eq_true rfl) (Nat.le_of_ble_eq_true rfl) ⟨rfl, rfl⟩
    · rw [if_neg hc2] at hd
      refine am_steps ok_Me_isOfBankAlone 1 (x' := (16, [some (.ref 2)], [.ref 2], h0, 0, 0)) rfl (Nat.le_of_ble_eq_true rfl) (Nat.le_of_ble_eq_true rfl) ?_
      refine hr_get ok_Me_isOfBankAlone rfl hR (kd := 8) (hs_k hR (a := 2) rfl) rfl (Nat.le_of_ble_eq_true rfl) (Nat.le_of_ble_eq_true rfl) (v := .int (S.2.1 804 2)) rfl (pc' := 19) rfl (Nat.le_of_ble_eq_true rfl) (Nat.le_of_ble_eq_true rfl) ?_
      refine am_steps ok_Me_isOfBankAlone 2 (x' := (if ((S.2.1 804 2) : Int32) = 2 then 48 else 23, [some (.ref 2)], [], h0, 0, 0)) rfl (Nat.le_of_ble_eq_true rfl) (Nat.le_of_ble_eq_true rfl) ?_
      refine am_if (fun hc3 => ?_) (fun hc3 => ?_)
      · rw [if_pos hc3] at hd
        refine am_steps ok_Me_isOfBankAlone 2 (x' := (53, [some (.ref 2)], [.int 1], h0, 0, 0)) rfl (Nat.le_of_ble_eq_true rfl) (Nat.le_of_ble_eq_true rfl) ?_
        cases hd; exact am_ret ok_Me_isOfBankAlone rfl (Nat.le_of_ble_eq_true rfl) (Nat.le_of_ble_eq_true rfl) ⟨rfl, rfl⟩
      · rw [if_neg hc3] at hd
        refine am_steps ok_Me_isOfBankAlone 1 (x' := (24, [some (.ref 2)], [.ref 2], h0, 0, 0)) rfl (Nat.le_of_ble_eq_true rfl) (Nat.le_of_ble_eq_true rfl) ?_
        refine hr_get ok_Me_isOfBankAlone rfl hR (kd := 8) (hs_k hR (a := 2) rfl) rfl (Nat.le_of_ble_eq_true rfl) (Nat.le_of_ble_eq_true rfl) (v := .int (S.2.1 804 2)) rfl (pc' := 27) rfl (Nat.le_of_ble_eq_true rfl) (Nat.le_of_ble_eq_true rfl) ?_
        refine am_steps ok_Me_isOfBankAlone 2 (x' := (if ((S.2.1 804 2) : Int32) = 3 then 48 else 31, [some (.ref 2)], [], h0, 0, 0)) rfl (Nat.le_of_ble_eq_true rfl) (Nat.le_of_ble_eq_true rfl) ?_
        refine am_if (fun hc4 => ?_) (fun hc4 => ?_)
        · rw [if_pos hc4] at hd
          refine am_steps ok_Me_isOfBankAlone 2 (x' := (53, [some (.ref 2)], [.int 1], h0, 0, 0)) rfl (Nat.le_of_ble_eq_true rfl) (Nat.le_of_ble_eq_true rfl) ?_
          cases hd; exact am_ret ok_Me_isOfBankAlone rfl (Nat.le_of_ble_eq_true rfl) (Nat.le_of_ble_eq_true rfl) ⟨rfl, rfl⟩
        · rw [if_neg hc4] at hd
          refine am_steps ok_Me_isOfBankAlone 1 (x' := (32, [some (.ref 2)], [.ref 2], h0, 0, 0)) rfl (Nat.le_of_ble_eq_true rfl) (Nat.le_of_ble_eq_true rfl) ?_
          refine hr_get ok_Me_isOfBankAlone rfl hR (kd := 8) (hs_k hR (a := 2) rfl) rfl (Nat.le_of_ble_eq_true rfl) (Nat.le_of_ble_eq_true rfl) (v := .int (S.2.1 804 2)) rfl (pc' := 35) rfl (Nat.le_of_ble_eq_true rfl) (Nat.le_of_ble_eq_true rfl) ?_
          refine am_steps ok_Me_isOfBankAlone 2 (x' := (if ((S.2.1 804 2) : Int32) = 4 then 48 else 39, [some (.ref 2)], [], h0, 0, 0)) rfl (Nat.le_of_ble_eq_true rfl) (Nat.le_of_ble_eq_true rfl) ?_
          refine am_if (fun hc5 => ?_) (fun hc5 => ?_)
          · rw [if_pos hc5] at hd
            refine am_steps ok_Me_isOfBankAlone 2 (x' := (53, [some (.ref 2)], [.int 1], h0, 0, 0)) rfl (Nat.le_of_ble_eq_true rfl) (Nat.le_of_ble_eq_true rfl) ?_
            cases hd; exact am_ret ok_Me_isOfBankAlone rfl (Nat.le_of_ble_eq_true rfl) (Nat.le_of_ble_eq_true rfl) ⟨rfl, rfl⟩
          · rw [if_neg hc5] at hd
            refine am_steps ok_Me_isOfBankAlone 1 (x' := (40, [some (.ref 2)], [.ref 2], h0, 0, 0)) rfl (Nat.le_of_ble_eq_true rfl) (Nat.le_of_ble_eq_true rfl) ?_
            refine hr_get ok_Me_isOfBankAlone rfl hR (kd := 8) (hs_k hR (a := 2) rfl) rfl (Nat.le_of_ble_eq_true rfl) (Nat.le_of_ble_eq_true rfl) (v := .int (S.2.1 804 2)) rfl (pc' := 43) rfl (Nat.le_of_ble_eq_true rfl) (Nat.le_of_ble_eq_true rfl) ?_
            refine am_steps ok_Me_isOfBankAlone 2 (x' := (if ¬ ((S.2.1 804 2) : Int32) = 13 then 52 else 48, [some (.ref 2)], [], h0, 0, 0)) rfl (Nat.le_of_ble_eq_true rfl) (Nat.le_of_ble_eq_true rfl) ?_
            refine am_if (fun hc6 => ?_) (fun hc6 => ?_)
            · rw [if_pos hc6] at hd
              refine am_steps ok_Me_isOfBankAlone 1 (x' := (53, [some (.ref 2)], [.int 0], h0, 0, 0)) rfl (Nat.le_of_ble_eq_true rfl) (Nat.le_of_ble_eq_true rfl) ?_
              cases hd; exact am_ret ok_Me_isOfBankAlone rfl (Nat.le_of_ble_eq_true rfl) (Nat.le_of_ble_eq_true rfl) ⟨rfl, rfl⟩
            · rw [if_neg hc6] at hd
              refine am_steps ok_Me_isOfBankAlone 2 (x' := (53, [some (.ref 2)], [.int 1], h0, 0, 0)) rfl (Nat.le_of_ble_eq_true rfl) (Nat.le_of_ble_eq_true rfl) ?_
              cases hd; exact am_ret ok_Me_isOfBankAlone rfl (Nat.le_of_ble_eq_true rfl) (Nat.le_of_ble_eq_true rfl) ⟨rfl, rfl⟩
def hl_Bo_findAsset_2 : Nat → Int32 → Int32 → hS → Option (Int32)
  | 0, _, _, _ => none
  | fu + 1, v1, v2, s => if ((s.2.1 403 10) : Int32) ≤ v2 then (some (-1)) else ((am_ix v2 64).bind fun j2 => (((s.2.2.2.2.2.2 12 j2)).bind fun b5 => (if ¬ ((s.2.1 300 b5) : Int32) = v1 then (hl_Bo_findAsset_2 fu v1 (v2 + 1) s) else (some v2))))
set_option maxHeartbeats 4000000 in
set_option maxRecDepth 100000 in
theorem Lc_Bo_findAsset_2 (s : hS) (h : am_H) (hR : RH s h) : ∀ (fu : Nat) (v1 : Int32) (v2 : Int32), ∀ (q : Int32), hl_Bo_findAsset_2 fu v1 v2 s = some q → am_S am_Pr none 0 0 0 0 109 (2, [some (.ref 10), some (.int v1), some (.int v2)], [], h, 0, 0) (am_is (some (.int q)) h) := by
  intro fu
  induction fu with
  | zero => intro v1 v2  q hd; cases hd
  | succ fu ih =>
    intro v1 v2  q hd
    unfold hl_Bo_findAsset_2 at hd
    refine am_steps ok_Bo_findAsset 2 (x' := (4, [some (.ref 10), some (.int v1), some (.int v2)], [.ref 10, .int v2], h, 0, 0)) rfl (Nat.le_of_ble_eq_true rfl) (Nat.le_of_ble_eq_true rfl) ?_
    refine hr_get ok_Bo_findAsset rfl hR (kd := 4) (hs_k hR (a := 10) rfl) rfl (Nat.le_of_ble_eq_true rfl) (Nat.le_of_ble_eq_true rfl) (v := .int (s.2.1 403 10)) rfl (pc' := 7) rfl (Nat.le_of_ble_eq_true rfl) (Nat.le_of_ble_eq_true rfl) ?_
    refine am_steps ok_Bo_findAsset 1 (x' := (if ((s.2.1 403 10) : Int32) ≤ v2 then 31 else 10, [some (.ref 10), some (.int v1), some (.int v2)], [], h, 0, 0)) rfl (Nat.le_of_ble_eq_true rfl) (Nat.le_of_ble_eq_true rfl) ?_
    refine am_if (fun hc1 => ?_) (fun hc1 => ?_)
    · rw [if_pos hc1] at hd
      refine am_steps ok_Bo_findAsset 1 (x' := (32, [some (.ref 10), some (.int v1), some (.int v2)], [.int (-1)], h, 0, 0)) rfl (Nat.le_of_ble_eq_true rfl) (Nat.le_of_ble_eq_true rfl) ?_
      cases hd; exact am_ret ok_Bo_findAsset rfl (Nat.le_of_ble_eq_true rfl) (Nat.le_of_ble_eq_true rfl) ⟨rfl, rfl⟩
    · rw [if_neg hc1] at hd
      refine am_steps ok_Bo_findAsset 1 (x' := (11, [some (.ref 10), some (.int v1), some (.int v2)], [.ref 10], h, 0, 0)) rfl (Nat.le_of_ble_eq_true rfl) (Nat.le_of_ble_eq_true rfl) ?_
      refine hr_get ok_Bo_findAsset rfl hR (kd := 4) (hs_k hR (a := 10) rfl) rfl (Nat.le_of_ble_eq_true rfl) (Nat.le_of_ble_eq_true rfl) (v := .ref 12) (congrArg va_rf (hR.2.2.2.2.1 (402, 10, 12) (by decide))) (pc' := 14) rfl (Nat.le_of_ble_eq_true rfl) (Nat.le_of_ble_eq_true rfl) ?_
      refine am_steps ok_Bo_findAsset 1 (x' := (15, [some (.ref 10), some (.int v1), some (.int v2)], [.int v2, .ref 12], h, 0, 0)) rfl (Nat.le_of_ble_eq_true rfl) (Nat.le_of_ble_eq_true rfl) ?_
      obtain ⟨j2, hx3, hd4⟩ := Option.bind_eq_some_iff.mp hd; clear hd; have hd := hd4; clear hd4
      refine hr_aald ok_Bo_findAsset rfl hR (kd := 25) (hs_k hR (a := 12) rfl) (by decide) (hs_ln hR rfl) hx3 (pc' := 16) rfl (Nat.le_of_ble_eq_true rfl) (Nat.le_of_ble_eq_true rfl) ?_
      obtain ⟨b5, hb6, hd7⟩ := Option.bind_eq_some_iff.mp hd; clear hd; have hd := hd7; clear hd7
      have hk8 := (fun b hb => hR.2.2.2.1 _ _ (hK.ln (hs_k hR (a := 12) rfl)) _ b hb) b5 hb6
      rw [hb6]
      show am_S _ _ _ _ _ _ _ (16, [some (.ref 10), some (.int v1), some (.int v2)], [.ref b5], h, 0, 0) _
      refine hr_get ok_Bo_findAsset rfl hR (kd := 3) hk8 rfl (Nat.le_of_ble_eq_true rfl) (Nat.le_of_ble_eq_true rfl) (v := .int (s.2.1 300 b5)) rfl (pc' := 19) rfl (Nat.le_of_ble_eq_true rfl) (Nat.le_of_ble_eq_true rfl) ?_
      refine am_steps ok_Bo_findAsset 2 (x' := (if ¬ ((s.2.1 300 b5) : Int32) = v1 then 25 else 23, [some (.ref 10), some (.int v1), some (.int v2)], [], h, 0, 0)) rfl (Nat.le_of_ble_eq_true rfl) (Nat.le_of_ble_eq_true rfl) ?_
      refine am_if (fun hc9 => ?_) (fun hc9 => ?_)
      · rw [if_pos hc9] at hd
        refine am_steps ok_Bo_findAsset 2 (x' := (2, [some (.ref 10), some (.int v1), some (.int (v2 + 1))], [], h, 0, 0)) rfl (Nat.le_of_ble_eq_true rfl) (Nat.le_of_ble_eq_true rfl) ?_
        exact ih v1 (v2 + 1)  q hd
      · rw [if_neg hc9] at hd
        refine am_steps ok_Bo_findAsset 1 (x' := (24, [some (.ref 10), some (.int v1), some (.int v2)], [.int v2], h, 0, 0)) rfl (Nat.le_of_ble_eq_true rfl) (Nat.le_of_ble_eq_true rfl) ?_
        cases hd; exact am_ret ok_Bo_findAsset rfl (Nat.le_of_ble_eq_true rfl) (Nat.le_of_ble_eq_true rfl) ⟨rfl, rfl⟩
def h_Bo_findAsset (a : Int32) (S : hS) : Option (Int32) := hl_Bo_findAsset_2 100000 a 0 S
set_option maxHeartbeats 4000000 in
set_option maxRecDepth 100000 in
theorem c_Bo_findAsset (a : Int32) (S : hS) (h0 : am_H) (hR : RH S h0)  (q : Int32) (hd : h_Bo_findAsset a S = some q) : am_Me am_Pr none 0 0 0 0 109 [.ref 10, .int a] h0 (am_is (some (.int q)) h0) := by
  refine am_enter (d := hd_Bo_findAsset) rfl (by decide +kernel) (Nat.le_of_ble_eq_true rfl) ?_
  show am_S _ _ _ _ _ _ _ (0, [some (.ref 10), some (.int a), none], [], h0, 0, 0) _
  unfold h_Bo_findAsset at hd
  refine am_steps ok_Bo_findAsset 2 (x' := (2, [some (.ref 10), some (.int a), some (.int 0)], [], h0, 0, 0)) rfl (Nat.le_of_ble_eq_true rfl) (Nat.le_of_ble_eq_true rfl) ?_
  exact Lc_Bo_findAsset_2 S h0 hR 100000 a 0  q hd
