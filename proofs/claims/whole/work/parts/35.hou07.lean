/-! Methods of the class as functions of its state. -/
def h_De_judge  (S : hS) : Option (Int32 × hS) := (h_Bo_findParticipant (S.2.1 805 2) S).bind fun q1 => (if ¬ (q1 : Int32) = (-1) then ((h_Me_isOfBankAlone  (hpI S 813 2 q1)).bind fun q14 => (if (q14 : Int32) = 0 then ((h_De_findCodes  (hpI S 813 2 q1)).bind fun q23 => (if (q23.1 : Int32) = 0 then ((h_Me_takesReference  q23.2).bind fun q35 => (if (q35 : Int32) = 0 then ((h_De_isInPhase  q23.2).bind fun q44 => (if ¬ (q44 : Int32) = 0 then ((h_Me_takesReference  q23.2).bind fun q53 => (if (q53 : Int32) = 0 then ((h_De_judgeMatter  q23.2).bind fun q62 => (some (q62.1, q62.2))) else ((h_AL14_size  q23.2).bind fun q73 => (if (q73 : Int32) < 2000 then ((h_De_judgeMatter  q23.2).bind fun q82 => (some (q82.1, q82.2))) else (some (12, q23.2)))))) else (some (7, q23.2)))) else ((h_De_findSent  q23.2).bind fun q93 => (if q93 = none then ((h_De_isInPhase  q23.2).bind fun q102 => (if ¬ (q102 : Int32) = 0 then ((h_Me_takesReference  q23.2).bind fun q111 => (if (q111 : Int32) = 0 then ((h_De_judgeMatter  q23.2).bind fun q120 => (some (q120.1, q120.2))) else ((h_AL14_size  q23.2).bind fun q131 => (if (q131 : Int32) < 2000 then ((h_De_judgeMatter  q23.2).bind fun q140 => (some (q140.1, q140.2))) else (some (12, q23.2)))))) else (some (7, q23.2)))) else ((q93).bind fun b151 => (((q23.2.2.2.2.1 1202 b151)).bind fun b155 => ((h_Me_hasSameBytes b155 q23.2).bind fun q159 => (if (q159 : Int32) = 0 then (some (6, q23.2)) else (some ((-1), q23.2)))))))))) else (some (q23.1, q23.2)))) else (if (q1 : Int32) = 0 then ((h_De_findCodes  (hpI S 813 2 q1)).bind fun q169 => (if (q169.1 : Int32) = 0 then ((h_Me_takesReference  q169.2).bind fun q181 => (if (q181 : Int32) = 0 then ((h_De_isInPhase  q169.2).bind fun q190 => (if ¬ (q190 : Int32) = 0 then ((h_Me_takesReference  q169.2).bind fun q199 => (if (q199 : Int32) = 0 then ((h_De_judgeMatter  q169.2).bind fun q208 => (some (q208.1, q208.2))) else ((h_AL14_size  q169.2).bind fun q219 => (if (q219 : Int32) < 2000 then ((h_De_judgeMatter  q169.2).bind fun q228 => (some (q228.1, q228.2))) else (some (12, q169.2)))))) else (some (7, q169.2)))) else ((h_De_findSent  q169.2).bind fun q239 => (if q239 = none then ((h_De_isInPhase  q169.2).bind fun q248 => (if ¬ (q248 : Int32) = 0 then ((h_Me_takesReference  q169.2).bind fun q257 => (if (q257 : Int32) = 0 then ((h_De_judgeMatter  q169.2).bind fun q266 => (some (q266.1, q266.2))) else ((h_AL14_size  q169.2).bind fun q277 => (if (q277 : Int32) < 2000 then ((h_De_judgeMatter  q169.2).bind fun q286 => (some (q286.1, q286.2))) else (some (12, q169.2)))))) else (some (7, q169.2)))) else ((q239).bind fun b297 => (((q169.2.2.2.2.1 1202 b297)).bind fun b301 => ((h_Me_hasSameBytes b301 q169.2).bind fun q305 => (if (q305 : Int32) = 0 then (some (6, q169.2)) else (some ((-1), q169.2)))))))))) else (some (q169.1, q169.2)))) else (some (3, (hpI S 813 2 q1)))))) else (some (2, (hpI S 813 2 q1))))
set_option maxHeartbeats 4000000 in
set_option maxRecDepth 100000 in
theorem c_De_judge  (S : hS) (h0 : am_H) (hR : RH S h0)  (q : Int32 × hS) (hd : h_De_judge  S = some q) : am_Me am_Pr none 6 137 1 10 133 [.ref 20, .ref 2] h0 (hQr (.int q.1) q.2 S.1 h0) := by
  refine am_enter (d := hd_De_judge) rfl (by decide +kernel) (Nat.le_of_ble_eq_true rfl) ?_
  show am_S _ _ _ _ _ _ _ (0, [some (.ref 20), some (.ref 2), none, none], [], h0, 0, 0) _
  unfold h_De_judge at hd
  refine am_steps ok_De_judge 2 (x' := (2, [some (.ref 20), some (.ref 2), none, none], [.ref 20, .ref 2], h0, 0, 0)) rfl (Nat.le_of_ble_eq_true rfl) (Nat.le_of_ble_eq_true rfl) ?_
  refine hr_get ok_De_judge rfl hR (kd := 5) (hs_k hR (a := 20) rfl) rfl (Nat.le_of_ble_eq_true rfl) (Nat.le_of_ble_eq_true rfl) (v := .ref 10) (congrArg va_rf (hR.2.2.2.2.1 (500, 20, 10) (by decide))) (pc' := 5) rfl (Nat.le_of_ble_eq_true rfl) (Nat.le_of_ble_eq_true rfl) ?_
  refine am_steps ok_De_judge 1 (x' := (6, [some (.ref 20), some (.ref 2), none, none], [.ref 2, .ref 10, .ref 2], h0, 0, 0)) rfl (Nat.le_of_ble_eq_true rfl) (Nat.le_of_ble_eq_true rfl) ?_
  refine hr_get ok_De_judge rfl hR (kd := 8) (hs_k hR (a := 2) rfl) rfl (Nat.le_of_ble_eq_true rfl) (Nat.le_of_ble_eq_true rfl) (v := .int (S.2.1 805 2)) rfl (pc' := 9) rfl (Nat.le_of_ble_eq_true rfl) (Nat.le_of_ble_eq_true rfl) ?_
  obtain ⟨q1, hq2, hd3⟩ := Option.bind_eq_some_iff.mp hd; clear hd; have hd := hd3; clear hd3
  refine ar_cv ok_De_judge hk_Bo_findParticipant rfl rfl (As := [.int (S.2.1 805 2)]) (ad := 10) (rest := [.ref 2]) rfl rfl (hR.ob (hs_k hR (a := 10) rfl) (Nat.le_of_ble_eq_true rfl)) (Nat.le_of_ble_eq_true rfl) (c_Bo_findParticipant (S.2.1 805 2) S h0 hR  q1 hq2) (Nat.le_of_ble_eq_true rfl) (Nat.le_of_ble_eq_true rfl) (Nat.le_of_ble_eq_true rfl) (Nat.le_of_ble_eq_true rfl) (pc' := 12) rfl (fun r4 h6 z5 => ?_)
  obtain ⟨rfl, z8⟩ := z5; rw [z8]
  show am_S _ _ _ _ _ _ _ (12, [some (.ref 20), some (.ref 2), none, none], [.int q1, .ref 2], h0, 0, 0) _
  refine hr_put ok_De_judge rfl hR (kd := 8) (hs_k hR (a := 2) rfl) rfl (Nat.le_of_ble_eq_true rfl) (Nat.le_of_ble_eq_true rfl) rfl (S' := (hpI S 813 2 q1)) rfl (hWT.up hR.2.2 rfl rfl rfl) (pc' := 15) rfl (Nat.le_of_ble_eq_true rfl) (Nat.le_of_ble_eq_true rfl) (fun h9 hR10 g11 => ?_)
  have f12 := hF.tr hF.rf g11
  refine am_steps ok_De_judge 1 (x' := (16, [some (.ref 20), some (.ref 2), none, none], [.ref 2], h9, 0, 0)) rfl (Nat.le_of_ble_eq_true rfl) (Nat.le_of_ble_eq_true rfl) ?_
  refine hr_get ok_De_judge rfl hR10 (kd := 8) (hs_k hR10 (a := 2) rfl) rfl (Nat.le_of_ble_eq_true rfl) (Nat.le_of_ble_eq_true rfl) (v := .int q1) rfl (pc' := 19) rfl (Nat.le_of_ble_eq_true rfl) (Nat.le_of_ble_eq_true rfl) ?_
  refine am_steps ok_De_judge 2 (x' := (if ¬ (q1 : Int32) = (-1) then 25 else 23, [some (.ref 20), some (.ref 2), none, none], [], h9, 0, 0)) rfl (Nat.le_of_ble_eq_true rfl) (Nat.le_of_ble_eq_true rfl) ?_
  refine am_if (fun hc13 => ?_) (fun hc13 => ?_)
  · rw [if_pos hc13] at hd
    refine am_steps ok_De_judge 1 (x' := (26, [some (.ref 20), some (.ref 2), none, none], [.ref 2], h9, 0, 0)) rfl (Nat.le_of_ble_eq_true rfl) (Nat.le_of_ble_eq_true rfl) ?_
    obtain ⟨q14, hq15, hd16⟩ := Option.bind_eq_some_iff.mp hd; clear hd; have hd := hd16; clear hd16
    refine ar_cv ok_De_judge hk_Me_isOfBankAlone rfl rfl (As := []) (ad := 2) (rest := []) rfl rfl (hR10.ob (hs_k hR10 (a := 2) rfl) (Nat.le_of_ble_eq_true rfl)) (Nat.le_of_ble_eq_true rfl) (c_Me_isOfBankAlone  (hpI S 813 2 q1) h9 hR10  q14 hq15) (Nat.le_of_ble_eq_true rfl) (Nat.le_of_ble_eq_true rfl) (Nat.le_of_ble_eq_true rfl) (Nat.le_of_ble_eq_true rfl) (pc' := 29) rfl (fun r17 h19 z18 => ?_)
    obtain ⟨rfl, z21⟩ := z18; rw [z21]
    show am_S _ _ _ _ _ _ _ (29, [some (.ref 20), some (.ref 2), none, none], [.int q14], h9, 0, 0) _
    refine am_steps ok_De_judge 1 (x' := (if (q14 : Int32) = 0 then 41 else 32, [some (.ref 20), some (.ref 2), none, none], [], h9, 0, 0)) rfl (Nat.le_of_ble_eq_true rfl) (Nat.le_of_ble_eq_true rfl) ?_
    refine am_if (fun hc22 => ?_) (fun hc22 => ?_)
    · rw [if_pos hc22] at hd
      refine am_steps ok_De_judge 2 (x' := (43, [some (.ref 20), some (.ref 2), none, none], [.ref 2, .ref 20], h9, 0, 0)) rfl (Nat.le_of_ble_eq_true rfl) (Nat.le_of_ble_eq_true rfl) ?_
      obtain ⟨q23, hq24, hd25⟩ := Option.bind_eq_some_iff.mp hd; clear hd; have hd := hd25; clear hd25
      refine ar_cv ok_De_judge hk_De_findCodes rfl rfl (As := [.ref 2]) (ad := 20) (rest := []) rfl rfl (hR10.ob (hs_k hR10 (a := 20) rfl) (Nat.le_of_ble_eq_true rfl)) (Nat.le_of_ble_eq_true rfl) (c_De_findCodes  (hpI S 813 2 q1) h9 hR10  q23 hq24) (Nat.le_of_ble_eq_true rfl) (Nat.le_of_ble_eq_true rfl) (Nat.le_of_ble_eq_true rfl) (Nat.le_of_ble_eq_true rfl) (pc' := 46) rfl (fun r26 h28 z27 => ?_)
      obtain ⟨rfl, hR30, g31, e32⟩ := z27
      have f33 := hF.tr f12 g31
      show am_S _ _ _ _ _ _ _ (46, [some (.ref 20), some (.ref 2), none, none], [.int q23.1], h28, 0, 0) _
      refine am_steps ok_De_judge 3 (x' := (if (q23.1 : Int32) = 0 then 53 else 51, [some (.ref 20), some (.ref 2), some (.int q23.1), none], [], h28, 0, 0)) rfl (Nat.le_of_ble_eq_true rfl) (Nat.le_of_ble_eq_true rfl) ?_
      refine am_if (fun hc34 => ?_) (fun hc34 => ?_)
      · rw [if_pos hc34] at hd
        refine am_steps ok_De_judge 1 (x' := (54, [some (.ref 20), some (.ref 2), some (.int q23.1), none], [.ref 2], h28, 0, 0)) rfl (Nat.le_of_ble_eq_true rfl) (Nat.le_of_ble_eq_true rfl) ?_
        obtain ⟨q35, hq36, hd37⟩ := Option.bind_eq_some_iff.mp hd; clear hd; have hd := hd37; clear hd37
        refine ar_cv ok_De_judge hk_Me_takesReference rfl rfl (As := []) (ad := 2) (rest := []) rfl rfl (hR30.ob (hs_k hR30 (a := 2) rfl) (Nat.le_of_ble_eq_true rfl)) (Nat.le_of_ble_eq_true rfl) (c_Me_takesReference  q23.2 h28 hR30  q35 hq36) (Nat.le_of_ble_eq_true rfl) (Nat.le_of_ble_eq_true rfl) (Nat.le_of_ble_eq_true rfl) (Nat.le_of_ble_eq_true rfl) (pc' := 57) rfl (fun r38 h40 z39 => ?_)
        obtain ⟨rfl, z42⟩ := z39; rw [z42]
        show am_S _ _ _ _ _ _ _ (57, [some (.ref 20), some (.ref 2), some (.int q23.1), none], [.int q35], h28, 0, 0) _
        refine am_steps ok_De_judge 1 (x' := (if (q35 : Int32) = 0 then 88 else 60, [some (.ref 20), some (.ref 2), some (.int q23.1), none], [], h28, 0, 0)) rfl (Nat.le_of_ble_eq_true rfl) (Nat.le_of_ble_eq_true rfl) ?_
        refine am_if (fun hc43 => ?_) (fun hc43 => ?_)
        · rw [if_pos hc43] at hd
          refine am_steps ok_De_judge 2 (x' := (90, [some (.ref 20), some (.ref 2), some (.int q23.1), none], [.ref 2, .ref 20], h28, 0, 0)) rfl (Nat.le_of_ble_eq_true rfl) (Nat.le_of_ble_eq_true rfl) ?_
          obtain ⟨q44, hq45, hd46⟩ := Option.bind_eq_some_iff.mp hd; clear hd; have hd := hd46; clear hd46
          refine ar_cv ok_De_judge hk_De_isInPhase rfl rfl (As := [.ref 2]) (ad := 20) (rest := []) rfl rfl (hR30.ob (hs_k hR30 (a := 20) rfl) (Nat.le_of_ble_eq_true rfl)) (Nat.le_of_ble_eq_true rfl) (c_De_isInPhase  q23.2 h28 hR30  q44 hq45) (Nat.le_of_ble_eq_true rfl) (Nat.le_of_ble_eq_true rfl) (Nat.le_of_ble_eq_true rfl) (Nat.le_of_ble_eq_true rfl) (pc' := 93) rfl (fun r47 h49 z48 => ?_)
          obtain ⟨rfl, z51⟩ := z48; rw [z51]
          show am_S _ _ _ _ _ _ _ (93, [some (.ref 20), some (.ref 2), some (.int q23.1), none], [.int q44], h28, 0, 0) _
          refine am_steps ok_De_judge 1 (x' := (if ¬ (q44 : Int32) = 0 then 99 else 96, [some (.ref 20), some (.ref 2), some (.int q23.1), none], [], h28, 0, 0)) rfl (Nat.le_of_ble_eq_true rfl) (Nat.le_of_ble_eq_true rfl) ?_
          refine am_if (fun hc52 => ?_) (fun hc52 => ?_)
          · rw [if_pos hc52] at hd
            refine am_steps ok_De_judge 1 (x' := (100, [some (.ref 20), some (.ref 2), some (.int q23.1), none], [.ref 2], h28, 0, 0)) rfl (Nat.le_of_ble_eq_true rfl) (Nat.le_of_ble_eq_true rfl) ?_
            obtain ⟨q53, hq54, hd55⟩ := Option.bind_eq_some_iff.mp hd; clear hd; have hd := hd55; clear hd55
            refine ar_cv ok_De_judge hk_Me_takesReference rfl rfl (As := []) (ad := 2) (rest := []) rfl rfl (hR30.ob (hs_k hR30 (a := 2) rfl) (Nat.le_of_ble_eq_true rfl)) (Nat.le_of_ble_eq_true rfl) (c_Me_takesReference  q23.2 h28 hR30  q53 hq54) (Nat.le_of_ble_eq_true rfl) (Nat.le_of_ble_eq_true rfl) (Nat.le_of_ble_eq_true rfl) (Nat.le_of_ble_eq_true rfl) (pc' := 103) rfl (fun r56 h58 z57 => ?_)
            obtain ⟨rfl, z60⟩ := z57; rw [z60]
            show am_S _ _ _ _ _ _ _ (103, [some (.ref 20), some (.ref 2), some (.int q23.1), none], [.int q53], h28, 0, 0) _
            refine am_steps ok_De_judge 1 (x' := (if (q53 : Int32) = 0 then 122 else 106, [some (.ref 20), some (.ref 2), some (.int q23.1), none], [], h28, 0, 0)) rfl (Nat.le_of_ble_eq_true rfl) (Nat.le_of_ble_eq_true rfl) ?_
            refine am_if (fun hc61 => ?_) (fun hc61 => ?_)
            · rw [if_pos hc61] at hd
              refine am_steps ok_De_judge 2 (x' := (124, [some (.ref 20), some (.ref 2), some (.int q23.1), none], [.ref 2, .ref 20], h28, 0, 0)) rfl (Nat.le_of_ble_eq_true rfl) (Nat.le_of_ble_eq_true rfl) ?_
              obtain ⟨q62, hq63, hd64⟩ := Option.bind_eq_some_iff.mp hd; clear hd; have hd := hd64; clear hd64
              refine ar_cv ok_De_judge hk_De_judgeMatter rfl rfl (As := [.ref 2]) (ad := 20) (rest := []) rfl rfl (hR30.ob (hs_k hR30 (a := 20) rfl) (Nat.le_of_ble_eq_true rfl)) (Nat.le_of_ble_eq_true rfl) (c_De_judgeMatter  q23.2 h28 hR30  q62 hq63) (Nat.le_of_ble_eq_true rfl) (Nat.le_of_ble_eq_true rfl) (Nat.le_of_ble_eq_true rfl) (Nat.le_of_ble_eq_true rfl) (pc' := 127) rfl (fun r65 h67 z66 => ?_)
              obtain ⟨rfl, hR69, g70, e71⟩ := z66
              have f72 := hF.tr f33 g70
              show am_S _ _ _ _ _ _ _ (127, [some (.ref 20), some (.ref 2), some (.int q23.1), none], [.int q62.1], h67, 1, 10) _
              cases hd; exact am_ret ok_De_judge rfl (Nat.le_of_ble_eq_true rfl) (Nat.le_of_ble_eq_true rfl) ⟨rfl, hR69, f72, ((hE.rf.tr e32).tr e71)⟩
            · rw [if_neg hc61] at hd
              refine am_steps ok_De_judge 1 (x' := (107, [some (.ref 20), some (.ref 2), some (.int q23.1), none], [.ref 20], h28, 0, 0)) rfl (Nat.le_of_ble_eq_true rfl) (Nat.le_of_ble_eq_true rfl) ?_
              refine hr_get ok_De_judge rfl hR30 (kd := 5) (hs_k hR30 (a := 20) rfl) rfl (Nat.le_of_ble_eq_true rfl) (Nat.le_of_ble_eq_true rfl) (v := .ref 21) (congrArg va_rf (hR30.2.2.2.2.1 (502, 20, 21) (by decide))) (pc' := 110) rfl (Nat.le_of_ble_eq_true rfl) (Nat.le_of_ble_eq_true rfl) ?_
              obtain ⟨q73, hq74, hd75⟩ := Option.bind_eq_some_iff.mp hd; clear hd; have hd := hd75; clear hd75
              refine ar_cv ok_De_judge hk_AL_size rfl rfl (As := []) (ad := 21) (rest := []) rfl rfl (hR30.ob (hs_k hR30 (a := 21) rfl) (Nat.le_of_ble_eq_true rfl)) (Nat.le_of_ble_eq_true rfl) (c_AL14_size  q23.2 h28 hR30  q73 hq74) (Nat.le_of_ble_eq_true rfl) (Nat.le_of_ble_eq_true rfl) (Nat.le_of_ble_eq_true rfl) (Nat.le_of_ble_eq_true rfl) (pc' := 113) rfl (fun r76 h78 z77 => ?_)
              obtain ⟨rfl, z80⟩ := z77; rw [z80]
              show am_S _ _ _ _ _ _ _ (113, [some (.ref 20), some (.ref 2), some (.int q23.1), none], [.int q73], h28, 0, 0) _
              refine am_steps ok_De_judge 2 (x' := (if (q73 : Int32) < 2000 then 122 else 119, [some (.ref 20), some (.ref 2), some (.int q23.1), none], [], h28, 0, 0)) rfl (Nat.le_of_ble_eq_true rfl) (Nat.le_of_ble_eq_true rfl) ?_
              refine am_if (fun hc81 => ?_) (fun hc81 => ?_)
              · rw [if_pos hc81] at hd
                refine am_steps ok_De_judge 2 (x' := (124, [some (.ref 20), some (.ref 2), some (.int q23.1), none], [.ref 2, .ref 20], h28, 0, 0)) rfl (Nat.le_of_ble_eq_true rfl) (Nat.le_of_ble_eq_true rfl) ?_
                obtain ⟨q82, hq83, hd84⟩ := Option.bind_eq_some_iff.mp hd; clear hd; have hd := hd84; clear hd84
                refine ar_cv ok_De_judge hk_De_judgeMatter rfl rfl (As := [.ref 2]) (ad := 20) (rest := []) rfl rfl (hR30.ob (hs_k hR30 (a := 20) rfl) (Nat.le_of_ble_eq_true rfl)) (Nat.le_of_ble_eq_true rfl) (c_De_judgeMatter  q23.2 h28 hR30  q82 hq83) (Nat.le_of_ble_eq_true rfl) (Nat.le_of_ble_eq_true rfl) (Nat.le_of_ble_eq_true rfl) (Nat.le_of_ble_eq_true rfl) (pc' := 127) rfl (fun r85 h87 z86 => ?_)
                obtain ⟨rfl, hR89, g90, e91⟩ := z86
                have f92 := hF.tr f33 g90
                show am_S _ _ _ _ _ _ _ (127, [some (.ref 20), some (.ref 2), some (.int q23.1), none], [.int q82.1], h87, 1, 10) _
                cases hd; exact am_ret ok_De_judge rfl (Nat.le_of_ble_eq_true rfl) (Nat.le_of_ble_eq_true rfl) ⟨rfl, hR89, f92, ((hE.rf.tr e32).tr e91)⟩
              · rw [if_neg hc81] at hd
                refine am_steps ok_De_judge 1 (x' := (121, [some (.ref 20), some (.ref 2), some (.int q23.1), none], [.int 12], h28, 0, 0)) rfl (Nat.le_of_ble_eq_true rfl) (Nat.le_of_ble_eq_true rfl) ?_
                cases hd; exact am_ret ok_De_judge rfl (Nat.le_of_ble_eq_true rfl) (Nat.le_of_ble_eq_true rfl) ⟨rfl, hR30, f33, (hE.rf.tr e32)⟩
          · rw [if_neg hc52] at hd
            refine am_steps ok_De_judge 1 (x' := (98, [some (.ref 20), some (.ref 2), some (.int q23.1), none], [.int 7], h28, 0, 0)) rfl (Nat.le_of_ble_eq_true rfl) (Nat.le_of_ble_eq_true rfl) ?_
            cases hd; exact am_ret ok_De_judge rfl (Nat.le_of_ble_eq_true rfl) (Nat.le_of_ble_eq_true rfl) ⟨rfl, hR30, f33, (hE.rf.tr e32)⟩
        · rw [if_neg hc43] at hd
          refine am_steps ok_De_judge 2 (x' := (62, [some (.ref 20), some (.ref 2), some (.int q23.1), none], [.ref 2, .ref 20], h28, 0, 0)) rfl (Nat.le_of_ble_eq_true rfl) (Nat.le_of_ble_eq_true rfl) ?_
          obtain ⟨q93, hq94, hd95⟩ := Option.bind_eq_some_iff.mp hd; clear hd; have hd := hd95; clear hd95
          refine ar_cv ok_De_judge hk_De_findSent rfl rfl (As := [.ref 2]) (ad := 20) (rest := []) rfl rfl (hR30.ob (hs_k hR30 (a := 20) rfl) (Nat.le_of_ble_eq_true rfl)) (Nat.le_of_ble_eq_true rfl) (c_De_findSent  q23.2 h28 hR30  q93 hq94) (Nat.le_of_ble_eq_true rfl) (Nat.le_of_ble_eq_true rfl) (Nat.le_of_ble_eq_true rfl) (Nat.le_of_ble_eq_true rfl) (pc' := 65) rfl (fun r96 h98 z97 => ?_)
          obtain ⟨rfl, z100, hk99⟩ := z97; rw [z100]
          show am_S _ _ _ _ _ _ _ (65, [some (.ref 20), some (.ref 2), some (.int q23.1), none], [va_rf q93], h28, 0, 0) _
          refine hr_astoren ok_De_judge rfl (Nat.le_of_ble_eq_true rfl) (lo' := [some (.ref 20), some (.ref 2), some (.int q23.1), some (va_rf q93)]) rfl (pc' := 66) rfl (Nat.le_of_ble_eq_true rfl) (Nat.le_of_ble_eq_true rfl) ?_
          refine hr_aloadn ok_De_judge rfl rfl (pc' := 67) rfl (Nat.le_of_ble_eq_true rfl) (Nat.le_of_ble_eq_true rfl) ?_
          refine hr_ifnull ok_De_judge rfl (pc' := 70) rfl (Nat.le_of_ble_eq_true rfl) (Nat.le_of_ble_eq_true rfl) ?_
          refine am_if (fun hc101 => ?_) (fun hc101 => ?_)
          · rw [if_pos hc101] at hd
            refine am_steps ok_De_judge 2 (x' := (90, [some (.ref 20), some (.ref 2), some (.int q23.1), some (va_rf q93)], [.ref 2, .ref 20], h28, 0, 0)) rfl (Nat.le_of_ble_eq_true rfl) (Nat.le_of_ble_eq_true rfl) ?_
            obtain ⟨q102, hq103, hd104⟩ := Option.bind_eq_some_iff.mp hd; clear hd; have hd := hd104; clear hd104
            refine ar_cv ok_De_judge hk_De_isInPhase rfl rfl (As := [.ref 2]) (ad := 20) (rest := []) rfl rfl (hR30.ob (hs_k hR30 (a := 20) rfl) (Nat.le_of_ble_eq_true rfl)) (Nat.le_of_ble_eq_true rfl) (c_De_isInPhase  q23.2 h28 hR30  q102 hq103) (Nat.le_of_ble_eq_true rfl) (Nat.le_of_ble_eq_true rfl) (Nat.le_of_ble_eq_true rfl) (Nat.le_of_ble_eq_true rfl) (pc' := 93) rfl (fun r105 h107 z106 => ?_)
            obtain ⟨rfl, z109⟩ := z106; rw [z109]
            show am_S _ _ _ _ _ _ _ (93, [some (.ref 20), some (.ref 2), some (.int q23.1), some (va_rf q93)], [.int q102], h28, 0, 0) _
            refine am_steps ok_De_judge 1 (x' := (if ¬ (q102 : Int32) = 0 then 99 else 96, [some (.ref 20), some (.ref 2), some (.int q23.1), some (va_rf q93)], [], h28, 0, 0)) rfl (Nat.le_of_ble_eq_true rfl) (Nat.le_of_ble_eq_true rfl) ?_
            refine am_if (fun hc110 => ?_) (fun hc110 => ?_)
            · rw [if_pos hc110] at hd
              refine am_steps ok_De_judge 1 (x' := (100, [some (.ref 20), some (.ref 2), some (.int q23.1), some (va_rf q93)], [.ref 2], h28, 0, 0)) rfl (Nat.le_of_ble_eq_true rfl) (Nat.le_of_ble_eq_true rfl) ?_
              obtain ⟨q111, hq112, hd113⟩ := Option.bind_eq_some_iff.mp hd; clear hd; have hd := hd113; clear hd113
              refine ar_cv ok_De_judge hk_Me_takesReference rfl rfl (As := []) (ad := 2) (rest := []) rfl rfl (hR30.ob (hs_k hR30 (a := 2) rfl) (Nat.le_of_ble_eq_true rfl)) (Nat.le_of_ble_eq_true rfl) (c_Me_takesReference  q23.2 h28 hR30  q111 hq112) (Nat.le_of_ble_eq_true rfl) (Nat.le_of_ble_eq_true rfl) (Nat.le_of_ble_eq_true rfl) (Nat.le_of_ble_eq_true rfl) (pc' := 103) rfl (fun r114 h116 z115 => ?_)
              obtain ⟨rfl, z118⟩ := z115; rw [z118]
              show am_S _ _ _ _ _ _ _ (103, [some (.ref 20), some (.ref 2), some (.int q23.1), some (va_rf q93)], [.int q111], h28, 0, 0) _
              refine am_steps ok_De_judge 1 (x' := (if (q111 : Int32) = 0 then 122 else 106, [some (.ref 20), some (.ref 2), some (.int q23.1), some (va_rf q93)], [], h28, 0, 0)) rfl (Nat.le_of_ble_eq_true rfl) (Nat.le_of_ble_eq_true rfl) ?_
              refine am_if (fun hc119 => ?_) (fun hc119 => ?_)
              · rw [if_pos hc119] at hd
                refine am_steps ok_De_judge 2 (x' := (124, [some (.ref 20), some (.ref 2), some (.int q23.1), some (va_rf q93)], [.ref 2, .ref 20], h28, 0, 0)) rfl (Nat.le_of_ble_eq_true rfl) (Nat.le_of_ble_eq_true rfl) ?_
                obtain ⟨q120, hq121, hd122⟩ := Option.bind_eq_some_iff.mp hd; clear hd; have hd := hd122; clear hd122
                refine ar_cv ok_De_judge hk_De_judgeMatter rfl rfl (As := [.ref 2]) (ad := 20) (rest := []) rfl rfl (hR30.ob (hs_k hR30 (a := 20) rfl) (Nat.le_of_ble_eq_true rfl)) (Nat.le_of_ble_eq_true rfl) (c_De_judgeMatter  q23.2 h28 hR30  q120 hq121) (Nat.le_of_ble_eq_true rfl) (Nat.le_of_ble_eq_true rfl) (Nat.le_of_ble_eq_true rfl) (Nat.le_of_ble_eq_true rfl) (pc' := 127) rfl (fun r123 h125 z124 => ?_)
                obtain ⟨rfl, hR127, g128, e129⟩ := z124
                have f130 := hF.tr f33 g128
                show am_S _ _ _ _ _ _ _ (127, [some (.ref 20), some (.ref 2), some (.int q23.1), some (va_rf q93)], [.int q120.1], h125, 1, 10) _
                cases hd; exact am_ret ok_De_judge rfl (Nat.le_of_ble_eq_true rfl) (Nat.le_of_ble_eq_true rfl) ⟨rfl, hR127, f130, ((hE.rf.tr e32).tr e129)⟩
              · rw [if_neg hc119] at hd
                refine am_steps ok_De_judge 1 (x' := (107, [some (.ref 20), some (.ref 2), some (.int q23.1), some (va_rf q93)], [.ref 20], h28, 0, 0)) rfl (Nat.le_of_ble_eq_true rfl) (Nat.le_of_ble_eq_true rfl) ?_
                refine hr_get ok_De_judge rfl hR30 (kd := 5) (hs_k hR30 (a := 20) rfl) rfl (Nat.le_of_ble_eq_true rfl) (Nat.le_of_ble_eq_true rfl) (v := .ref 21) (congrArg va_rf (hR30.2.2.2.2.1 (502, 20, 21) (by decide))) (pc' := 110) rfl (Nat.le_of_ble_eq_true rfl) (Nat.le_of_ble_eq_true rfl) ?_
                obtain ⟨q131, hq132, hd133⟩ := Option.bind_eq_some_iff.mp hd; clear hd; have hd := hd133; clear hd133
                refine ar_cv ok_De_judge hk_AL_size rfl rfl (As := []) (ad := 21) (rest := []) rfl rfl (hR30.ob (hs_k hR30 (a := 21) rfl) (Nat.le_of_ble_eq_true rfl)) (Nat.le_of_ble_eq_true rfl) (c_AL14_size  q23.2 h28 hR30  q131 hq132) (Nat.le_of_ble_eq_true rfl) (Nat.le_of_ble_eq_true rfl) (Nat.le_of_ble_eq_true rfl) (Nat.le_of_ble_eq_true rfl) (pc' := 113) rfl (fun r134 h136 z135 => ?_)
                obtain ⟨rfl, z138⟩ := z135; rw [z138]
                show am_S _ _ _ _ _ _ _ (113, [some (.ref 20), some (.ref 2), some (.int q23.1), some (va_rf q93)], [.int q131], h28, 0, 0) _
                refine am_steps ok_De_judge 2 (x' := (if (q131 : Int32) < 2000 then 122 else 119, [some (.ref 20), some (.ref 2), some (.int q23.1), some (va_rf q93)], [], h28, 0, 0)) rfl (Nat.le_of_ble_eq_true rfl) (Nat.le_of_ble_eq_true rfl) ?_
                refine am_if (fun hc139 => ?_) (fun hc139 => ?_)
                · rw [if_pos hc139] at hd
                  refine am_steps ok_De_judge 2 (x' := (124, [some (.ref 20), some (.ref 2), some (.int q23.1), some (va_rf q93)], [.ref 2, .ref 20], h28, 0, 0)) rfl (Nat.le_of_ble_eq_true rfl) (Nat.le_of_ble_eq_true rfl) ?_
                  obtain ⟨q140, hq141, hd142⟩ := Option.bind_eq_some_iff.mp hd; clear hd; have hd := hd142; clear hd142
                  refine ar_cv ok_De_judge hk_De_judgeMatter rfl rfl (As := [.ref 2]) (ad := 20) (rest := []) rfl rfl (hR30.ob (hs_k hR30 (a := 20) rfl) (Nat.le_of_ble_eq_true rfl)) (Nat.le_of_ble_eq_true rfl) (c_De_judgeMatter  q23.2 h28 hR30  q140 hq141) (Nat.le_of_ble_eq_true rfl) (Nat.le_of_ble_eq_true rfl) (Nat.le_of_ble_eq_true rfl) (Nat.le_of_ble_eq_true rfl) (pc' := 127) rfl (fun r143 h145 z144 => ?_)
                  obtain ⟨rfl, hR147, g148, e149⟩ := z144
                  have f150 := hF.tr f33 g148
                  show am_S _ _ _ _ _ _ _ (127, [some (.ref 20), some (.ref 2), some (.int q23.1), some (va_rf q93)], [.int q140.1], h145, 1, 10) _
                  cases hd; exact am_ret ok_De_judge rfl (Nat.le_of_ble_eq_true rfl) (Nat.le_of_ble_eq_true rfl) ⟨rfl, hR147, f150, ((hE.rf.tr e32).tr e149)⟩
                · rw [if_neg hc139] at hd
                  refine am_steps ok_De_judge 1 (x' := (121, [some (.ref 20), some (.ref 2), some (.int q23.1), some (va_rf q93)], [.int 12], h28, 0, 0)) rfl (Nat.le_of_ble_eq_true rfl) (Nat.le_of_ble_eq_true rfl) ?_
                  cases hd; exact am_ret ok_De_judge rfl (Nat.le_of_ble_eq_true rfl) (Nat.le_of_ble_eq_true rfl) ⟨rfl, hR30, f33, (hE.rf.tr e32)⟩
            · rw [if_neg hc110] at hd
              refine am_steps ok_De_judge 1 (x' := (98, [some (.ref 20), some (.ref 2), some (.int q23.1), some (va_rf q93)], [.int 7], h28, 0, 0)) rfl (Nat.le_of_ble_eq_true rfl) (Nat.le_of_ble_eq_true rfl) ?_
              cases hd; exact am_ret ok_De_judge rfl (Nat.le_of_ble_eq_true rfl) (Nat.le_of_ble_eq_true rfl) ⟨rfl, hR30, f33, (hE.rf.tr e32)⟩
          · rw [if_neg hc101] at hd
            obtain ⟨b151, hb152, hd153⟩ := Option.bind_eq_some_iff.mp hd; clear hd; have hd := hd153; clear hd153
            have hk154 := hk99 b151 hb152
            rw [hb152]
            show am_S _ _ _ _ _ _ _ (70, [some (.ref 20), some (.ref 2), some (.int q23.1), some (.ref b151)], [], h28, 0, 0) _
            refine am_steps ok_De_judge 2 (x' := (72, [some (.ref 20), some (.ref 2), some (.int q23.1), some (.ref b151)], [.ref b151, .ref 2], h28, 0, 0)) rfl (Nat.le_of_ble_eq_true rfl) (Nat.le_of_ble_eq_true rfl) ?_
            refine hr_get ok_De_judge rfl hR30 (kd := 12) hk154 rfl (Nat.le_of_ble_eq_true rfl) (Nat.le_of_ble_eq_true rfl) (v := va_rf (q23.2.2.2.2.1 1202 b151)) rfl (pc' := 75) rfl (Nat.le_of_ble_eq_true rfl) (Nat.le_of_ble_eq_true rfl) ?_
            obtain ⟨b155, hb156, hd157⟩ := Option.bind_eq_some_iff.mp hd; clear hd; have hd := hd157; clear hd157
            have hk158 := (fun b hb => hR30.2.2.1 1202 _ b hb) b155 hb156
            rw [hb156]
            show am_S _ _ _ _ _ _ _ (75, [some (.ref 20), some (.ref 2), some (.int q23.1), some (.ref b151)], [.ref b155, .ref 2], h28, 0, 0) _
            obtain ⟨q159, hq160, hd161⟩ := Option.bind_eq_some_iff.mp hd; clear hd; have hd := hd161; clear hd161
            refine ar_cv ok_De_judge hk_Me_hasSameBytes rfl rfl (As := [.ref b155]) (ad := 2) (rest := []) rfl rfl (hR30.ob (hs_k hR30 (a := 2) rfl) (Nat.le_of_ble_eq_true rfl)) (Nat.le_of_ble_eq_true rfl) (c_Me_hasSameBytes b155 q23.2 h28 hR30 hk158 q159 hq160) (Nat.le_of_ble_eq_true rfl) (Nat.le_of_ble_eq_true rfl) (Nat.le_of_ble_eq_true rfl) (Nat.le_of_ble_eq_true rfl) (pc' := 78) rfl (fun r162 h164 z163 => ?_)
            obtain ⟨rfl, z166⟩ := z163; rw [z166]
            show am_S _ _ _ _ _ _ _ (78, [some (.ref 20), some (.ref 2), some (.int q23.1), some (.ref b151)], [.int q159], h28, 0, 0) _
            refine am_steps ok_De_judge 1 (x' := (if (q159 : Int32) = 0 then 85 else 81, [some (.ref 20), some (.ref 2), some (.int q23.1), some (.ref b151)], [], h28, 0, 0)) rfl (Nat.le_of_ble_eq_true rfl) (Nat.le_of_ble_eq_true rfl) ?_
            refine am_if (fun hc167 => ?_) (fun hc167 => ?_)
            · rw [if_pos hc167] at hd
              refine am_steps ok_De_judge 1 (x' := (87, [some (.ref 20), some (.ref 2), some (.int q23.1), some (.ref b151)], [.int 6], h28, 0, 0)) rfl (Nat.le_of_ble_eq_true rfl) (Nat.le_of_ble_eq_true rfl) ?_
              cases hd; exact am_ret ok_De_judge rfl (Nat.le_of_ble_eq_true rfl) (Nat.le_of_ble_eq_true rfl) ⟨rfl, hR30, f33, (hE.rf.tr e32)⟩
            · rw [if_neg hc167] at hd
              refine am_steps ok_De_judge 2 (x' := (87, [some (.ref 20), some (.ref 2), some (.int q23.1), some (.ref b151)], [.int (-1)], h28, 0, 0)) rfl (Nat.le_of_ble_eq_true rfl) (Nat.le_of_ble_eq_true rfl) ?_
              cases hd; exact am_ret ok_De_judge rfl (Nat.le_of_ble_eq_true rfl) (Nat.le_of_ble_eq_true rfl) ⟨rfl, hR30, f33, (hE.rf.tr e32)⟩
      · rw [if_neg hc34] at hd
        refine am_steps ok_De_judge 1 (x' := (52, [some (.ref 20), some (.ref 2), some (.int q23.1), none], [.int q23.1], h28, 0, 0)) rfl (Nat.le_of_ble_eq_true rfl) (Nat.le_of_ble_eq_true rfl) ?_
        cases hd; exact am_ret ok_De_judge rfl (Nat.le_of_ble_eq_true rfl) (Nat.le_of_ble_eq_true rfl) ⟨rfl, hR30, f33, (hE.rf.tr e32)⟩
    · rw [if_neg hc22] at hd
      refine am_steps ok_De_judge 1 (x' := (33, [some (.ref 20), some (.ref 2), none, none], [.ref 2], h9, 0, 0)) rfl (Nat.le_of_ble_eq_true rfl) (Nat.le_of_ble_eq_true rfl) ?_
      refine hr_get ok_De_judge rfl hR10 (kd := 8) (hs_k hR10 (a := 2) rfl) rfl (Nat.le_of_ble_eq_true rfl) (Nat.le_of_ble_eq_true rfl) (v := .int q1) rfl (pc' := 36) rfl (Nat.le_of_ble_eq_true rfl) (Nat.le_of_ble_eq_true rfl) ?_
      refine am_steps ok_De_judge 1 (x' := (if (q1 : Int32) = 0 then 41 else 39, [some (.ref 20), some (.ref 2), none, none], [], h9, 0, 0)) rfl (Nat.le_of_ble_eq_true rfl) (Nat.le_of_ble_eq_true rfl) ?_
      refine am_if (fun hc168 => ?_) (fun hc168 => ?_)
      · rw [if_pos hc168] at hd
        refine am_steps ok_De_judge 2 (x' := (43, [some (.ref 20), some (.ref 2), none, none], [.ref 2, .ref 20], h9, 0, 0)) rfl (Nat.le_of_ble_eq_true rfl) (Nat.le_of_ble_eq_true rfl) ?_
        obtain ⟨q169, hq170, hd171⟩ := Option.bind_eq_some_iff.mp hd; clear hd; have hd := hd171; clear hd171
        refine ar_cv ok_De_judge hk_De_findCodes rfl rfl (As := [.ref 2]) (ad := 20) (rest := []) rfl rfl (hR10.ob (hs_k hR10 (a := 20) rfl) (Nat.le_of_ble_eq_true rfl)) (Nat.le_of_ble_eq_true rfl) (c_De_findCodes  (hpI S 813 2 q1) h9 hR10  q169 hq170) (Nat.le_of_ble_eq_true rfl) (Nat.le_of_ble_eq_true rfl) (Nat.le_of_ble_eq_true rfl) (Nat.le_of_ble_eq_true rfl) (pc' := 46) rfl (fun r172 h174 z173 => ?_)
        obtain ⟨rfl, hR176, g177, e178⟩ := z173
        have f179 := hF.tr f12 g177
        show am_S _ _ _ _ _ _ _ (46, [some (.ref 20), some (.ref 2), none, none], [.int q169.1], h174, 0, 0) _
        refine am_steps ok_De_judge 3 (x' := (if (q169.1 : Int32) = 0 then 53 else 51, [some (.ref 20), some (.ref 2), some (.int q169.1), none], [], h174, 0, 0)) rfl (Nat.le_of_ble_eq_true rfl) (Nat.le_of_ble_eq_true rfl) ?_
        refine am_if (fun hc180 => ?_) (fun hc180 => ?_)
        · rw [if_pos hc180] at hd
          refine am_steps ok_De_judge 1 (x' := (54, [some (.ref 20), some (.ref 2), some (.int q169.1), none], [.ref 2], h174, 0, 0)) rfl (Nat.le_of_ble_eq_true rfl) (Nat.le_of_ble_eq_true rfl) ?_
          obtain ⟨q181, hq182, hd183⟩ := Option.bind_eq_some_iff.mp hd; clear hd; have hd := hd183; clear hd183
          refine ar_cv ok_De_judge hk_Me_takesReference rfl rfl (As := []) (ad := 2) (rest := []) rfl rfl (hR176.ob (hs_k hR176 (a := 2) rfl) (Nat.le_of_ble_eq_true rfl)) (Nat.le_of_ble_eq_true rfl) (c_Me_takesReference  q169.2 h174 hR176  q181 hq182) (Nat.le_of_ble_eq_true rfl) (Nat.le_of_ble_eq_true rfl) (Nat.le_of_ble_eq_true rfl) (Nat.le_of_ble_eq_true rfl) (pc' := 57) rfl (fun r184 h186 z185 => ?_)
          obtain ⟨rfl, z188⟩ := z185; rw [z188]
          show am_S _ _ _ _ _ _ _ (57, [some (.ref 20), some (.ref 2), some (.int q169.1), none], [.int q181], h174, 0, 0) _
          refine am_steps ok_De_judge 1 (x' := (if (q181 : Int32) = 0 then 88 else 60, [some (.ref 20), some (.ref 2), some (.int q169.1), none], [], h174, 0, 0)) rfl (Nat.le_of_ble_eq_true rfl) (Nat.le_of_ble_eq_true rfl) ?_
          refine am_if (fun hc189 => ?_) (fun hc189 => ?_)
          · rw [if_pos hc189] at hd
            refine am_steps ok_De_judge 2 (x' := (90, [some (.ref 20), some (.ref 2), some (.int q169.1), none], [.ref 2, .ref 20], h174, 0, 0)) rfl (Nat.le_of_ble_eq_true rfl) (Nat.le_of_ble_eq_true rfl) ?_
            obtain ⟨q190, hq191, hd192⟩ := Option.bind_eq_some_iff.mp hd; clear hd; have hd := hd192; clear hd192
            refine ar_cv ok_De_judge hk_De_isInPhase rfl rfl (As := [.ref 2]) (ad := 20) (rest := []) rfl rfl (hR176.ob (hs_k hR176 (a := 20) rfl) (Nat.le_of_ble_eq_true rfl)) (Nat.le_of_ble_eq_true rfl) (c_De_isInPhase  q169.2 h174 hR176  q190 hq191) (Nat.le_of_ble_eq_true rfl) (Nat.le_of_ble_eq_true rfl) (Nat.le_of_ble_eq_true rfl) (Nat.le_of_ble_eq_true rfl) (pc' := 93) rfl (fun r193 h195 z194 => ?_)
            obtain ⟨rfl, z197⟩ := z194; rw [z197]
            show am_S _ _ _ _ _ _ _ (93, [some (.ref 20), some (.ref 2), some (.int q169.1), none], [.int q190], h174, 0, 0) _
            refine am_steps ok_De_judge 1 (x' := (if ¬ (q190 : Int32) = 0 then 99 else 96, [some (.ref 20), some (.ref 2), some (.int q169.1), none], [], h174, 0, 0)) rfl (Nat.le_of_ble_eq_true rfl) (Nat.le_of_ble_eq_true rfl) ?_
            refine am_if (fun hc198 => ?_) (fun hc198 => ?_)
            · rw [if_pos hc198] at hd
              refine am_steps ok_De_judge 1 (x' := (100, [some (.ref 20), some (.ref 2), some (.int q169.1), none], [.ref 2], h174, 0, 0)) rfl (Nat.le_of_ble_eq_true rfl) (Nat.le_of_ble_eq_true rfl) ?_
              obtain ⟨q199, hq200, hd201⟩ := Option.bind_eq_some_iff.mp hd; clear hd; have hd := hd201; clear hd201
              refine ar_cv ok_De_judge hk_Me_takesReference rfl rfl (As := []) (ad := 2) (rest := []) rfl rfl (hR176.ob (hs_k hR176 (a := 2) rfl) (Nat.le_of_ble_eq_true rfl)) (Nat.le_of_ble_eq_true rfl) (c_Me_takesReference  q169.2 h174 hR176  q199 hq200) (Nat.le_of_ble_eq_true rfl) (Nat.le_of_ble_eq_true rfl) (Nat.le_of_ble_eq_true rfl) (Nat.le_of_ble_eq_true rfl) (pc' := 103) rfl (fun r202 h204 z203 => ?_)
              obtain ⟨rfl, z206⟩ := z203; rw [z206]
              show am_S _ _ _ _ _ _ _ (103, [some (.ref 20), some (.ref 2), some (.int q169.1), none], [.int q199], h174, 0, 0) _
              refine am_steps ok_De_judge 1 (x' := (if (q199 : Int32) = 0 then 122 else 106, [some (.ref 20), some (.ref 2), some (.int q169.1), none], [], h174, 0, 0)) rfl (Nat.le_of_ble_eq_true rfl) (Nat.le_of_ble_eq_true rfl) ?_
              refine am_if (fun hc207 => ?_) (fun hc207 => ?_)
              · rw [if_pos hc207] at hd
                refine am_steps ok_De_judge 2 (x' := (124, [some (.ref 20), some (.ref 2), some (.int q169.1), none], [.ref 2, .ref 20], h174, 0, 0)) rfl (Nat.le_of_ble_eq_true rfl) (Nat.le_of_ble_eq_true rfl) ?_
                obtain ⟨q208, hq209, hd210⟩ := Option.bind_eq_some_iff.mp hd; clear hd; have hd := hd210; clear hd210
                refine ar_cv ok_De_judge hk_De_judgeMatter rfl rfl (As := [.ref 2]) (ad := 20) (rest := []) rfl rfl (hR176.ob (hs_k hR176 (a := 20) rfl) (Nat.le_of_ble_eq_true rfl)) (Nat.le_of_ble_eq_true rfl) (c_De_judgeMatter  q169.2 h174 hR176  q208 hq209) (Nat.le_of_ble_eq_true rfl) (Nat.le_of_ble_eq_true rfl) (Nat.le_of_ble_eq_true rfl) (Nat.le_of_ble_eq_true rfl) (pc' := 127) rfl (fun r211 h213 z212 => ?_)
                obtain ⟨rfl, hR215, g216, e217⟩ := z212
                have f218 := hF.tr f179 g216
                show am_S _ _ _ _ _ _ _ (127, [some (.ref 20), some (.ref 2), some (.int q169.1), none], [.int q208.1], h213, 1, 10) _
                cases hd; exact am_ret ok_De_judge rfl (Nat.le_of_ble_eq_true rfl) (Nat.le_of_ble_eq_true rfl) ⟨rfl, hR215, f218, ((hE.rf.tr e178).tr e217)⟩
              · rw [if_neg hc207] at hd
                refine am_steps ok_De_judge 1 (x' := (107, [some (.ref 20), some (.ref 2), some (.int q169.1), none], [.ref 20], h174, 0, 0)) rfl (Nat.le_of_ble_eq_true rfl) (Nat.le_of_ble_eq_true rfl) ?_
                refine hr_get ok_De_judge rfl hR176 (kd := 5) (hs_k hR176 (a := 20) rfl) rfl (Nat.le_of_ble_eq_true rfl) (Nat.le_of_ble_eq_true rfl) (v := .ref 21) (congrArg va_rf (hR176.2.2.2.2.1 (502, 20, 21) (by decide))) (pc' := 110) rfl (Nat.le_of_ble_eq_true rfl) (Nat.le_of_ble_eq_true rfl) ?_
                obtain ⟨q219, hq220, hd221⟩ := Option.bind_eq_some_iff.mp hd; clear hd; have hd := hd221; clear hd221
                refine ar_cv ok_De_judge hk_AL_size rfl rfl (As := []) (ad := 21) (rest := []) rfl rfl (hR176.ob (hs_k hR176 (a := 21) rfl) (Nat.le_of_ble_eq_true rfl)) (Nat.le_of_ble_eq_true rfl) (c_AL14_size  q169.2 h174 hR176  q219 hq220) (Nat.le_of_ble_eq_true rfl) (Nat.le_of_ble_eq_true rfl) (Nat.le_of_ble_eq_true rfl) (Nat.le_of_ble_eq_true rfl) (pc' := 113) rfl (fun r222 h224 z223 => ?_)
                obtain ⟨rfl, z226⟩ := z223; rw [z226]
                show am_S _ _ _ _ _ _ _ (113, [some (.ref 20), some (.ref 2), some (.int q169.1), none], [.int q219], h174, 0, 0) _
                refine am_steps ok_De_judge 2 (x' := (if (q219 : Int32) < 2000 then 122 else 119, [some (.ref 20), some (.ref 2), some (.int q169.1), none], [], h174, 0, 0)) rfl (Nat.le_of_ble_eq_true rfl) (Nat.le_of_ble_eq_true rfl) ?_
                refine am_if (fun hc227 => ?_) (fun hc227 => ?_)
                · rw [if_pos hc227] at hd
                  refine am_steps ok_De_judge 2 (x' := (124, [some (.ref 20), some (.ref 2), some (.int q169.1), none], [.ref 2, .ref 20], h174, 0, 0)) rfl (Nat.le_of_ble_eq_true rfl) (Nat.le_of_ble_eq_true rfl) ?_
                  obtain ⟨q228, hq229, hd230⟩ := Option.bind_eq_some_iff.mp hd; clear hd; have hd := hd230; clear hd230
                  refine ar_cv ok_De_judge hk_De_judgeMatter rfl rfl (As := [.ref 2]) (ad := 20) (rest := []) rfl rfl (hR176.ob (hs_k hR176 (a := 20) rfl) (Nat.le_of_ble_eq_true rfl)) (Nat.le_of_ble_eq_true rfl) (c_De_judgeMatter  q169.2 h174 hR176  q228 hq229) (Nat.le_of_ble_eq_true rfl) (Nat.le_of_ble_eq_true rfl) (Nat.le_of_ble_eq_true rfl) (Nat.le_of_ble_eq_true rfl) (pc' := 127) rfl (fun r231 h233 z232 => ?_)
                  obtain ⟨rfl, hR235, g236, e237⟩ := z232
                  have f238 := hF.tr f179 g236
                  show am_S _ _ _ _ _ _ _ (127, [some (.ref 20), some (.ref 2), some (.int q169.1), none], [.int q228.1], h233, 1, 10) _
                  cases hd; exact am_ret ok_De_judge rfl (Nat.le_of_ble_eq_true rfl) (Nat.le_of_ble_eq_true rfl) ⟨rfl, hR235, f238, ((hE.rf.tr e178).tr e237)⟩
                · rw [if_neg hc227] at hd
                  refine am_steps ok_De_judge 1 (x' := (121, [some (.ref 20), some (.ref 2), some (.int q169.1), none], [.int 12], h174, 0, 0)) rfl (Nat.le_of_ble_eq_true rfl) (Nat.le_of_ble_eq_true rfl) ?_
                  cases hd; exact am_ret ok_De_judge rfl (Nat.le_of_ble_eq_true rfl) (Nat.le_of_ble_eq_true rfl) ⟨rfl, hR176, f179, (hE.rf.tr e178)⟩
            · rw [if_neg hc198] at hd
              refine am_steps ok_De_judge 1 (x' := (98, [some (.ref 20), some (.ref 2), some (.int q169.1), none], [.int 7], h174, 0, 0)) rfl (Nat.le_of_ble_eq_true rfl) (Nat.le_of_ble_eq_true rfl) ?_
              cases hd; exact am_ret ok_De_judge rfl (Nat.le_of_ble_eq_true rfl) (Nat.le_of_ble_eq_true rfl) ⟨rfl, hR176, f179, (hE.rf.tr e178)⟩
          · rw [if_neg hc189] at hd
            refine am_steps ok_De_judge 2 (x' := (62, [some (.ref 20), some (.ref 2), some (.int q169.1), none], [.ref 2, .ref 20], h174, 0, 0)) rfl (Nat.le_of_ble_eq_true rfl) (Nat.le_of_ble_eq_true rfl) ?_
            obtain ⟨q239, hq240, hd241⟩ := Option.bind_eq_some_iff.mp hd; clear hd; have hd := hd241; clear hd241
            refine ar_cv ok_De_judge hk_De_findSent rfl rfl (As := [.ref 2]) (ad := 20) (rest := []) rfl rfl (hR176.ob (hs_k hR176 (a := 20) rfl) (Nat.le_of_ble_eq_true rfl)) (Nat.le_of_ble_eq_true rfl) (c_De_findSent  q169.2 h174 hR176  q239 hq240) (Nat.le_of_ble_eq_true rfl) (Nat.le_of_ble_eq_true rfl) (Nat.le_of_ble_eq_true rfl) (Nat.le_of_ble_eq_true rfl) (pc' := 65) rfl (fun r242 h244 z243 => ?_)
            obtain ⟨rfl, z246, hk245⟩ := z243; rw [z246]
            show am_S _ _ _ _ _ _ _ (65, [some (.ref 20), some (.ref 2), some (.int q169.1), none], [va_rf q239], h174, 0, 0) _
            refine hr_astoren ok_De_judge rfl (Nat.le_of_ble_eq_true rfl) (lo' := [some (.ref 20), some (.ref 2), some (.int q169.1), some (va_rf q239)]) rfl (pc' := 66) rfl (Nat.le_of_ble_eq_true rfl) (Nat.le_of_ble_eq_true rfl) ?_
            refine hr_aloadn ok_De_judge rfl rfl (pc' := 67) rfl (Nat.le_of_ble_eq_true rfl) (Nat.le_of_ble_eq_true rfl) ?_
            refine hr_ifnull ok_De_judge rfl (pc' := 70) rfl (Nat.le_of_ble_eq_true rfl) (Nat.le_of_ble_eq_true rfl) ?_
            refine am_if (fun hc247 => ?_) (fun hc247 => ?_)
            · rw [if_pos hc247] at hd
              refine am_steps ok_De_judge 2 (x' := (90, [some (.ref 20), some (.ref 2), some (.int q169.1), some (va_rf q239)], [.ref 2, .ref 20], h174, 0, 0)) rfl (Nat.le_of_ble_eq_true rfl) (Nat.le_of_ble_eq_true rfl) ?_
              obtain ⟨q248, hq249, hd250⟩ := Option.bind_eq_some_iff.mp hd; clear hd; have hd := hd250; clear hd250
              refine ar_cv ok_De_judge hk_De_isInPhase rfl rfl (As := [.ref 2]) (ad := 20) (rest := []) rfl rfl (hR176.ob (hs_k hR176 (a := 20) rfl) (Nat.le_of_ble_eq_true rfl)) (Nat.le_of_ble_eq_true rfl) (c_De_isInPhase  q169.2 h174 hR176  q248 hq249) (Nat.le_of_ble_eq_true rfl) (Nat.le_of_ble_eq_true rfl) (Nat.le_of_ble_eq_true rfl) (Nat.le_of_ble_eq_true rfl) (pc' := 93) rfl (fun r251 h253 z252 => ?_)
              obtain ⟨rfl, z255⟩ := z252; rw [z255]
              show am_S _ _ _ _ _ _ _ (93, [some (.ref 20), some (.ref 2), some (.int q169.1), some (va_rf q239)], [.int q248], h174, 0, 0) _
              refine am_steps ok_De_judge 1 (x' := (if ¬ (q248 : Int32) = 0 then 99 else 96, [some (.ref 20), some (.ref 2), some (.int q169.1), some (va_rf q239)], [], h174, 0, 0)) rfl (Nat.le_of_ble_eq_true rfl) (Nat.le_of_ble_eq_true rfl) ?_
              refine am_if (fun hc256 => ?_) (fun hc256 => ?_)
              · rw [if_pos hc256] at hd
                refine am_steps ok_De_judge 1 (x' := (100, [some (.ref 20), some (.ref 2), some (.int q169.1), some (va_rf q239)], [.ref 2], h174, 0, 0)) rfl (Nat.le_of_ble_eq_true rfl) (Nat.le_of_ble_eq_true rfl) ?_
                obtain ⟨q257, hq258, hd259⟩ := Option.bind_eq_some_iff.mp hd; clear hd; have hd := hd259; clear hd259
                refine ar_cv ok_De_judge hk_Me_takesReference rfl rfl (As := []) (ad := 2) (rest := []) rfl rfl (hR176.ob (hs_k hR176 (a := 2) rfl) (Nat.le_of_ble_eq_true rfl)) (Nat.le_of_ble_eq_true rfl) (c_Me_takesReference  q169.2 h174 hR176  q257 hq258) (Nat.le_of_ble_eq_true rfl) (Nat.le_of_ble_eq_true rfl) (Nat.le_of_ble_eq_true rfl) (Nat.le_of_ble_eq_true rfl) (pc' := 103) rfl (fun r260 h262 z261 => ?_)
                obtain ⟨rfl, z264⟩ := z261; rw [z264]
                show am_S _ _ _ _ _ _ _ (103, [some (.ref 20), some (.ref 2), some (.int q169.1), some (va_rf q239)], [.int q257], h174, 0, 0) _
                refine am_steps ok_De_judge 1 (x' := (if (q257 : Int32) = 0 then 122 else 106, [some (.ref 20), some (.ref 2), some (.int q169.1), some (va_rf q239)], [], h174, 0, 0)) rfl (Nat.le_of_ble_eq_true rfl) (Nat.le_of_ble_eq_true rfl) ?_
                refine am_if (fun hc265 => ?_) (fun hc265 => ?_)
                · rw [if_pos hc265] at hd
                  refine am_steps ok_De_judge 2 (x' := (124, [some (.ref 20), some (.ref 2), some (.int q169.1), some (va_rf q239)], [.ref 2, .ref 20], h174, 0, 0)) rfl (Nat.le_of_ble_eq_true rfl) (Nat.le_of_ble_eq_true rfl) ?_
                  obtain ⟨q266, hq267, hd268⟩ := Option.bind_eq_some_iff.mp hd; clear hd; have hd := hd268; clear hd268
                  refine ar_cv ok_De_judge hk_De_judgeMatter rfl rfl (As := [.ref 2]) (ad := 20) (rest := []) rfl rfl (hR176.ob (hs_k hR176 (a := 20) rfl) (Nat.le_of_ble_eq_true rfl)) (Nat.le_of_ble_eq_true rfl) (c_De_judgeMatter  q169.2 h174 hR176  q266 hq267) (Nat.le_of_ble_eq_true rfl) (Nat.le_of_ble_eq_true rfl) (Nat.le_of_ble_eq_true rfl) (Nat.le_of_ble_eq_true rfl) (pc' := 127) rfl (fun r269 h271 z270 => ?_)
                  obtain ⟨rfl, hR273, g274, e275⟩ := z270
                  have f276 := hF.tr f179 g274
                  show am_S _ _ _ _ _ _ _ (127, [some (.ref 20), some (.ref 2), some (.int q169.1), some (va_rf q239)], [.int q266.1], h271, 1, 10) _
                  cases hd; exact am_ret ok_De_judge rfl (Nat.le_of_ble_eq_true rfl) (Nat.le_of_ble_eq_true rfl) ⟨rfl, hR273, f276, ((hE.rf.tr e178).tr e275)⟩
                · rw [if_neg hc265] at hd
                  refine am_steps ok_De_judge 1 (x' := (107, [some (.ref 20), some (.ref 2), some (.int q169.1), some (va_rf q239)], [.ref 20], h174, 0, 0)) rfl (Nat.le_of_ble_eq_true rfl) (Nat.le_of_ble_eq_true rfl) ?_
                  refine hr_get ok_De_judge rfl hR176 (kd := 5) (hs_k hR176 (a := 20) rfl) rfl (Nat.le_of_ble_eq_true rfl) (Nat.le_of_ble_eq_true rfl) (v := .ref 21) (congrArg va_rf (hR176.2.2.2.2.1 (502, 20, 21) (by decide))) (pc' := 110) rfl (Nat.le_of_ble_eq_true rfl) (Nat.le_of_ble_eq_true rfl) ?_
                  obtain ⟨q277, hq278, hd279⟩ := Option.bind_eq_some_iff.mp hd; clear hd; have hd := hd279; clear hd279
                  refine ar_cv ok_De_judge hk_AL_size rfl rfl (As := []) (ad := 21) (rest := []) rfl rfl (hR176.ob (hs_k hR176 (a := 21) rfl) (Nat.le_of_ble_eq_true rfl)) (Nat.le_of_ble_eq_true rfl) (c_AL14_size  q169.2 h174 hR176  q277 hq278) (Nat.le_of_ble_eq_true rfl) (Nat.le_of_ble_eq_true rfl) (Nat.le_of_ble_eq_true rfl) (Nat.le_of_ble_eq_true rfl) (pc' := 113) rfl (fun r280 h282 z281 => ?_)
                  obtain ⟨rfl, z284⟩ := z281; rw [z284]
                  show am_S _ _ _ _ _ _ _ (113, [some (.ref 20), some (.ref 2), some (.int q169.1), some (va_rf q239)], [.int q277], h174, 0, 0) _
                  refine am_steps ok_De_judge 2 (x' := (if (q277 : Int32) < 2000 then 122 else 119, [some (.ref 20), some (.ref 2), some (.int q169.1), some (va_rf q239)], [], h174, 0, 0)) rfl (Nat.le_of_ble_eq_true rfl) (Nat.le_of_ble_eq_true rfl) ?_
                  refine am_if (fun hc285 => ?_) (fun hc285 => ?_)
                  · rw [if_pos hc285] at hd
                    refine am_steps ok_De_judge 2 (x' := (124, [some (.ref 20), some (.ref 2), some (.int q169.1), some (va_rf q239)], [.ref 2, .ref 20], h174, 0, 0)) rfl (Nat.le_of_ble_eq_true rfl) (Nat.le_of_ble_eq_true rfl) ?_
                    obtain ⟨q286, hq287, hd288⟩ := Option.bind_eq_some_iff.mp hd; clear hd; have hd := hd288; clear hd288
                    refine ar_cv ok_De_judge hk_De_judgeMatter rfl rfl (As := [.ref 2]) (ad := 20) (rest := []) rfl rfl (hR176.ob (hs_k hR176 (a := 20) rfl) (Nat.le_of_ble_eq_true rfl)) (Nat.le_of_ble_eq_true rfl) (c_De_judgeMatter  q169.2 h174 hR176  q286 hq287) (Nat.le_of_ble_eq_true rfl) (Nat.le_of_ble_eq_true rfl) (Nat.le_of_ble_eq_true rfl) (Nat.le_of_ble_eq_true rfl) (pc' := 127) rfl (fun r289 h291 z290 => ?_)
                    obtain ⟨rfl, hR293, g294, e295⟩ := z290
                    have f296 := hF.tr f179 g294
                    show am_S _ _ _ _ _ _ _ (127, [some (.ref 20), some (.ref 2), some (.int q169.1), some (va_rf q239)], [.int q286.1], h291, 1, 10) _
                    cases hd; exact am_ret ok_De_judge rfl (Nat.le_of_ble_eq_true rfl) (Nat.le_of_ble_eq_true rfl) ⟨rfl, hR293, f296, ((hE.rf.tr e178).tr e295)⟩
                  · rw [if_neg hc285] at hd
                    refine am_steps ok_De_judge 1 (x' := (121, [some (.ref 20), some (.ref 2), some (.int q169.1), some (va_rf q239)], [.int 12], h174, 0, 0)) rfl (Nat.le_of_ble_eq_true rfl) (Nat.le_of_ble_eq_true rfl) ?_
                    cases hd; exact am_ret ok_De_judge rfl (Nat.le_of_ble_eq_true rfl) (Nat.le_of_ble_eq_true rfl) ⟨rfl, hR176, f179, (hE.rf.tr e178)⟩
              · rw [if_neg hc256] at hd
                refine am_steps ok_De_judge 1 (x' := (98, [some (.ref 20), some (.ref 2), some (.int q169.1), some (va_rf q239)], [.int 7], h174, 0, 0)) rfl (Nat.le_of_ble_eq_true rfl) (Nat.le_of_ble_eq_true rfl) ?_
                cases hd; exact am_ret ok_De_judge rfl (Nat.le_of_ble_eq_true rfl) (Nat.le_of_ble_eq_true rfl) ⟨rfl, hR176, f179, (hE.rf.tr e178)⟩
            · rw [if_neg hc247] at hd
              obtain ⟨b297, hb298, hd299⟩ := Option.bind_eq_some_iff.mp hd; clear hd; have hd := hd299; clear hd299
              have hk300 := hk245 b297 hb298
              rw [hb298]
              show am_S _ _ _ _ _ _ _ (70, [some (.ref 20), some (.ref 2), some (.int q169.1), some (.ref b297)], [], h174, 0, 0) _
              refine am_steps ok_De_judge 2 (x' := (72, [some (.ref 20), some (.ref 2), some (.int q169.1), some (.ref b297)], [.ref b297, .ref 2], h174, 0, 0)) rfl (Nat.le_of_ble_eq_true rfl) (Nat.le_of_ble_eq_true rfl) ?_
              refine hr_get ok_De_judge rfl hR176 (kd := 12) hk300 rfl (Nat.le_of_ble_eq_true rfl) (Nat.le_of_ble_eq_true rfl) (v := va_rf (q169.2.2.2.2.1 1202 b297)) rfl (pc' := 75) rfl (Nat.le_of_ble_eq_true rfl) (Nat.le_of_ble_eq_true rfl) ?_
              obtain ⟨b301, hb302, hd303⟩ := Option.bind_eq_some_iff.mp hd; clear hd; have hd := hd303; clear hd303
              have hk304 := (fun b hb => hR176.2.2.1 1202 _ b hb) b301 hb302
              rw [hb302]
              show am_S _ _ _ _ _ _ _ (75, [some (.ref 20), some (.ref 2), some (.int q169.1), some (.ref b297)], [.ref b301, .ref 2], h174, 0, 0) _
              obtain ⟨q305, hq306, hd307⟩ := Option.bind_eq_some_iff.mp hd; clear hd; have hd := hd307; clear hd307
              refine ar_cv ok_De_judge hk_Me_hasSameBytes rfl rfl (As := [.ref b301]) (ad := 2) (rest := []) rfl rfl (hR176.ob (hs_k hR176 (a := 2) rfl) (Nat.le_of_ble_eq_true rfl)) (Nat.le_of_ble_eq_true rfl) (c_Me_hasSameBytes b301 q169.2 h174 hR176 hk304 q305 hq306) (Nat.le_of_ble_eq_true rfl) (Nat.le_of_ble_eq_true rfl) (Nat.le_of_ble_eq_true rfl) (Nat.le_of_ble_eq_true rfl) (pc' := 78) rfl (fun r308 h310 z309 => ?_)
              obtain ⟨rfl, z312⟩ := z309; rw [z312]
              show am_S _ _ _ _ _ _ _ (78, [some (.ref 20), some (.ref 2), some (.int q169.1), some (.ref b297)], [.int q305], h174, 0, 0) _
              refine am_steps ok_De_judge 1 (x' := (if (q305 : Int32) = 0 then 85 else 81, [some (.ref 20), some (.ref 2), some (.int q169.1), some (.ref b297)], [], h174, 0, 0)) rfl (Nat.le_of_ble_eq_true rfl) (Nat.le_of_ble_eq_true rfl) ?_
              refine am_if (fun hc313 => ?_) (fun hc313 => ?_)
              · rw [if_pos hc313] at hd
                refine am_steps ok_De_judge 1 (x' := (87, [some (.ref 20), some (.ref 2), some (.int q169.1), some (.ref b297)], [.int 6], h174, 0, 0)) rfl (Nat.le_of_ble_eq_true rfl) (Nat.le_of_ble_eq_true rfl) ?_
                cases hd; exact am_ret ok_De_judge rfl (Nat.le_of_ble_eq_true rfl) (Nat.le_of_ble_eq_true rfl) ⟨rfl, hR176, f179, (hE.rf.tr e178)⟩
              · rw [if_neg hc313] at hd
                refine am_steps ok_De_judge 2 (x' := (87, [some (.ref 20), some (.ref 2), some (.int q169.1), some (.ref b297)], [.int (-1)], h174, 0, 0)) rfl (Nat.le_of_ble_eq_true rfl) (Nat.le_of_ble_eq_true rfl) ?_
                cases hd; exact am_ret ok_De_judge rfl (Nat.le_of_ble_eq_true rfl) (Nat.le_of_ble_eq_true rfl) ⟨rfl, hR176, f179, (hE.rf.tr e178)⟩
        · rw [if_neg hc180] at hd
          refine am_steps ok_De_judge 1 (x' := (52, [some (.ref 20), some (.ref 2), some (.int q169.1), none], [.int q169.1], h174, 0, 0)) rfl (Nat.le_of_ble_eq_true rfl) (Nat.le_of_ble_eq_true rfl) ?_
          cases hd; exact am_ret ok_De_judge rfl (Nat.le_of_ble_eq_true rfl) (Nat.le_of_ble_eq_true rfl) ⟨rfl, hR176, f179, (hE.rf.tr e178)⟩
      · rw [if_neg hc168] at hd
        refine am_steps ok_De_judge 1 (x' := (40, [some (.ref 20), some (.ref 2), none, none], [.int 3], h9, 0, 0)) rfl (Nat.le_of_ble_eq_true rfl) (Nat.le_of_ble_eq_true rfl) ?_
        cases hd; exact am_ret ok_De_judge rfl (Nat.le_of_ble_eq_true rfl) (Nat.le_of_ble_eq_true rfl) ⟨rfl, hR10, f12, hE.rf⟩
  · rw [if_neg hc13] at hd
    refine am_steps ok_De_judge 1 (x' := (24, [some (.ref 20), some (.ref 2), none, none], [.int 2], h9, 0, 0)) rfl (Nat.le_of_ble_eq_true rfl) (Nat.le_of_ble_eq_true rfl) ?_
    cases hd; exact am_ret ok_De_judge rfl (Nat.le_of_ble_eq_true rfl) (Nat.le_of_ble_eq_true rfl) ⟨rfl, hR10, f12, hE.rf⟩
def h_An_put (a : Int32) (S : hS) : Option (hS) := if (6000 : Int32) ≤ (S.2.1 201 7) then (some S) else ((am_ix (S.2.1 201 7) 6000).bind fun j2 => (some (hpI (hpA S 8 j2 (am_bn 2 (Int8.toInt32 (Int32.toInt8 a)))) 201 7 ((S.2.1 201 7) + 1))))
set_option maxHeartbeats 4000000 in
set_option maxRecDepth 100000 in
theorem c_An_put (a : Int32) (S : hS) (h0 : am_H) (hR : RH S h0)  (q : hS) (hd : h_An_put a S = some q) : am_Me am_Pr none 0 0 0 0 99 [.ref 7, .int a] h0 (hQv q S.1 h0) := by
  refine am_enter (d := hd_An_put) rfl (by decide +kernel) (Nat.le_of_ble_eq_true rfl) ?_
  show am_S _ _ _ _ _ _ _ (0, [some (.ref 7), some (.int a)], [], h0, 0, 0) _
  unfold h_An_put at hd
  refine am_steps ok_An_put 1 (x' := (1, [some (.ref 7), some (.int a)], [.ref 7], h0, 0, 0)) rfl (Nat.le_of_ble_eq_true rfl) (Nat.le_of_ble_eq_true rfl) ?_
  refine hr_get ok_An_put rfl hR (kd := 2) (hs_k hR (a := 7) rfl) rfl (Nat.le_of_ble_eq_true rfl) (Nat.le_of_ble_eq_true rfl) (v := .int (S.2.1 201 7)) rfl (pc' := 4) rfl (Nat.le_of_ble_eq_true rfl) (Nat.le_of_ble_eq_true rfl) ?_
  refine am_steps ok_An_put 2 (x' := (if (6000 : Int32) ≤ (S.2.1 201 7) then 31 else 10, [some (.ref 7), some (.int a)], [], h0, 0, 0)) rfl (Nat.le_of_ble_eq_true rfl) (Nat.le_of_ble_eq_true rfl) ?_
  refine am_if (fun hc1 => ?_) (fun hc1 => ?_)
  · rw [if_pos hc1] at hd
    cases hd; exact am_ret ok_An_put rfl (Nat.le_of_ble_eq_true rfl) (Nat.le_of_ble_eq_true rfl) ⟨rfl, hR, hF.rf, hE.rf⟩
  · rw [if_neg hc1] at hd
    refine am_steps ok_An_put 1 (x' := (11, [some (.ref 7), some (.int a)], [.ref 7], h0, 0, 0)) rfl (Nat.le_of_ble_eq_true rfl) (Nat.le_of_ble_eq_true rfl) ?_
    refine hr_get ok_An_put rfl hR (kd := 2) (hs_k hR (a := 7) rfl) rfl (Nat.le_of_ble_eq_true rfl) (Nat.le_of_ble_eq_true rfl) (v := .ref 8) (congrArg va_rf (hR.2.2.2.2.1 (200, 7, 8) (by decide))) (pc' := 14) rfl (Nat.le_of_ble_eq_true rfl) (Nat.le_of_ble_eq_true rfl) ?_
    refine am_steps ok_An_put 1 (x' := (15, [some (.ref 7), some (.int a)], [.ref 7, .ref 8], h0, 0, 0)) rfl (Nat.le_of_ble_eq_true rfl) (Nat.le_of_ble_eq_true rfl) ?_
    refine hr_get ok_An_put rfl hR (kd := 2) (hs_k hR (a := 7) rfl) rfl (Nat.le_of_ble_eq_true rfl) (Nat.le_of_ble_eq_true rfl) (v := .int (S.2.1 201 7)) rfl (pc' := 18) rfl (Nat.le_of_ble_eq_true rfl) (Nat.le_of_ble_eq_true rfl) ?_
    refine am_steps ok_An_put 2 (x' := (20, [some (.ref 7), some (.int a)], [.int (Int8.toInt32 (Int32.toInt8 a)), .int (S.2.1 201 7), .ref 8], h0, 0, 0)) rfl (Nat.le_of_ble_eq_true rfl) (Nat.le_of_ble_eq_true rfl) ?_
    obtain ⟨j2, hx3, hd4⟩ := Option.bind_eq_some_iff.mp hd; clear hd; have hd := hd4; clear hd4
    refine hr_bast ok_An_put rfl hR (kd := 22) (hs_k hR (a := 8) rfl) (by decide) (hs_ln hR rfl) hx3 (pc' := 21) rfl (Nat.le_of_ble_eq_true rfl) (Nat.le_of_ble_eq_true rfl) (fun h5 hR6 g7 => ?_)
    have f8 := hF.tr hF.rf g7
    refine am_steps ok_An_put 2 (x' := (23, [some (.ref 7), some (.int a)], [.ref 7, .ref 7], h5, 0, 0)) rfl (Nat.le_of_ble_eq_true rfl) (Nat.le_of_ble_eq_true rfl) ?_
    refine hr_get ok_An_put rfl hR6 (kd := 2) (hs_k hR6 (a := 7) rfl) rfl (Nat.le_of_ble_eq_true rfl) (Nat.le_of_ble_eq_true rfl) (v := .int (S.2.1 201 7)) rfl (pc' := 26) rfl (Nat.le_of_ble_eq_true rfl) (Nat.le_of_ble_eq_true rfl) ?_
    refine am_steps ok_An_put 2 (x' := (28, [some (.ref 7), some (.int a)], [.int ((S.2.1 201 7) + 1), .ref 7], h5, 0, 0)) rfl (Nat.le_of_ble_eq_true rfl) (Nat.le_of_ble_eq_true rfl) ?_
    refine hr_put ok_An_put rfl hR6 (kd := 2) (hs_k hR6 (a := 7) rfl) rfl (Nat.le_of_ble_eq_true rfl) (Nat.le_of_ble_eq_true rfl) rfl (S' := (hpI (hpA S 8 j2 (am_bn 2 (Int8.toInt32 (Int32.toInt8 a)))) 201 7 ((S.2.1 201 7) + 1))) rfl (hWT.up hR6.2.2 rfl rfl rfl) (pc' := 31) rfl (Nat.le_of_ble_eq_true rfl) (Nat.le_of_ble_eq_true rfl) (fun h9 hR10 g11 => ?_)
    have f12 := hF.tr f8 g11
    cases hd; exact am_ret ok_An_put rfl (Nat.le_of_ble_eq_true rfl) (Nat.le_of_ble_eq_true rfl) ⟨rfl, hR10, f12, hE.rf⟩
def hl_An_putText_2 : Nat → Nat → Int32 → hS → Option (hS)
  | 0, _, _, _ => none
  | fu + 1, v1, v2, s => (am_sl v1).bind fun q1 => (if (q1 : Int32) ≤ v2 then (some s) else ((am_sc v1 v2).bind fun q11 => ((h_An_put q11 s).bind fun q20 => (hl_An_putText_2 fu v1 (v2 + 1) q20))))
set_option maxHeartbeats 4000000 in
set_option maxRecDepth 100000 in
theorem Lc_An_putText_2 {Q : Option Value → am_H → Prop} (sh0 : List (Nat × Nat)) (h0 : am_H) : ∀ (fu : Nat) (v1 : Nat) (v2 : Int32) (s : hS) (h : am_H), RH s h → hF h0 h → hE sh0 s.1 → ∀ q : hS, hl_An_putText_2 fu v1 v2 s = some q → (∀ h' : am_H, RH q h' → hF h0 h' → hE sh0 q.1 → am_S am_Pr none 4 85 0 0 100 (25, [some (.ref 7), some (.ref (am_M + (10 + v1))), none], [], h', 0, 0) Q) → am_S am_Pr none 4 85 0 0 100 (2, [some (.ref 7), some (.ref (am_M + (10 + v1))), some (.int v2)], [], h, 0, 0) Q := by
  intro fu
  induction fu with
  | zero => intro v1 v2 s h hR f he  q hd; cases hd
  | succ fu ih =>
    intro v1 v2 s h hR f he  q hd kk
    unfold hl_An_putText_2 at hd
    refine am_steps ok_An_putText 2 (x' := (4, [some (.ref 7), some (.ref (am_M + (10 + v1))), some (.int v2)], [.ref (am_M + (10 + v1)), .int v2], h, 0, 0)) rfl (Nat.le_of_ble_eq_true rfl) (Nat.le_of_ble_eq_true rfl) ?_
    obtain ⟨q1, hq2, hd3⟩ := Option.bind_eq_some_iff.mp hd; clear hd; have hd := hd3; clear hd3
    obtain ⟨s7, hs8, _⟩ := Option.map_eq_some_iff.mp hq2
    refine ao_callS (d0 := hd_An_putText) rfl (x := 26) (a := 844) (j' := 236) hk_St_length rfl rfl hs8 (by decide +kernel) (by decide +kernel) (As := []) (rest := [.int v2]) rfl rfl (Nat.le_of_ble_eq_true rfl) (c_St_length v1 h q1 hq2) (Nat.le_of_ble_eq_true rfl) (Nat.le_of_ble_eq_true rfl) (Nat.le_of_ble_eq_true rfl) (Nat.le_of_ble_eq_true rfl) (pc' := 7) rfl (fun r4 h9 z5 => ?_)
    obtain ⟨rfl, z6⟩ := z5; rw [z6]
    show am_S _ _ _ _ _ _ _ (7, [some (.ref 7), some (.ref (am_M + (10 + v1))), some (.int v2)], [.int q1, .int v2], h, 0, 0) _
    refine am_steps ok_An_putText 1 (x' := (if (q1 : Int32) ≤ v2 then 25 else 10, [some (.ref 7), some (.ref (am_M + (10 + v1))), some (.int v2)], [], h, 0, 0)) rfl (Nat.le_of_ble_eq_true rfl) (Nat.le_of_ble_eq_true rfl) ?_
    refine am_if (fun hc10 => ?_) (fun hc10 => ?_)
    · rw [if_pos hc10] at hd
      refine am_drop 2 ?_
      cases hd; exact kk h hR f he 
    · rw [if_neg hc10] at hd
      refine am_steps ok_An_putText 3 (x' := (13, [some (.ref 7), some (.ref (am_M + (10 + v1))), some (.int v2)], [.int v2, .ref (am_M + (10 + v1)), .ref 7], h, 0, 0)) rfl (Nat.le_of_ble_eq_true rfl) (Nat.le_of_ble_eq_true rfl) ?_
      obtain ⟨q11, hq12, hd13⟩ := Option.bind_eq_some_iff.mp hd; clear hd; have hd := hd13; clear hd13
      obtain ⟨s17, hs18, _⟩ := Option.bind_eq_some_iff.mp hq12
      refine ao_callS (d0 := hd_An_putText) rfl (x := 32) (a := 845) (j' := 239) hk_St_charAt rfl rfl hs18 (by decide +kernel) (by decide +kernel) (As := [.int v2]) (rest := [.ref 7]) rfl rfl (Nat.le_of_ble_eq_true rfl) (c_St_charAt v1 v2 h q11 hq12) (Nat.le_of_ble_eq_true rfl) (Nat.le_of_ble_eq_true rfl) (Nat.le_of_ble_eq_true rfl) (Nat.le_of_ble_eq_true rfl) (pc' := 16) rfl (fun r14 h19 z15 => ?_)
      obtain ⟨rfl, z16⟩ := z15; rw [z16]
      show am_S _ _ _ _ _ _ _ (16, [some (.ref 7), some (.ref (am_M + (10 + v1))), some (.int v2)], [.int q11, .ref 7], h, 0, 0) _
      obtain ⟨q20, hq21, hd22⟩ := Option.bind_eq_some_iff.mp hd; clear hd; have hd := hd22; clear hd22
      refine ar_cv ok_An_putText hk_An_put rfl rfl (As := [.int q11]) (ad := 7) (rest := []) rfl rfl (hR.ob (hs_k hR (a := 7) rfl) (Nat.le_of_ble_eq_true rfl)) (Nat.le_of_ble_eq_true rfl) (c_An_put q11 s h hR  q20 hq21) (Nat.le_of_ble_eq_true rfl) (Nat.le_of_ble_eq_true rfl) (Nat.le_of_ble_eq_true rfl) (Nat.le_of_ble_eq_true rfl) (pc' := 19) rfl (fun r23 h25 z24 => ?_)
      obtain ⟨rfl, hR27, g28, e29⟩ := z24
      have f30 := hF.tr f g28
      show am_S _ _ _ _ _ _ _ (19, [some (.ref 7), some (.ref (am_M + (10 + v1))), some (.int v2)], [], h25, 0, 0) _
      refine am_steps ok_An_putText 2 (x' := (2, [some (.ref 7), some (.ref (am_M + (10 + v1))), some (.int (v2 + 1))], [], h25, 0, 0)) rfl (Nat.le_of_ble_eq_true rfl) (Nat.le_of_ble_eq_true rfl) ?_
      exact ih v1 (v2 + 1) q20 h25 hR27 f30 (he.tr e29)  q hd kk
def h_An_putText (a : Nat) (S : hS) : Option (hS) := (hl_An_putText_2 100000 a 0 S).bind fun q31 => (some q31)
set_option maxHeartbeats 4000000 in
set_option maxRecDepth 100000 in
theorem c_An_putText (a : Nat) (S : hS) (h0 : am_H) (hR : RH S h0)  (q : hS) (hd : h_An_putText a S = some q) : am_Me am_Pr none 4 85 0 0 100 [.ref 7, .ref (am_M + (10 + a))] h0 (hQv q S.1 h0) := by
  refine am_enter (d := hd_An_putText) rfl (by decide +kernel) (Nat.le_of_ble_eq_true rfl) ?_
  show am_S _ _ _ _ _ _ _ (0, [some (.ref 7), some (.ref (am_M + (10 + a))), none], [], h0, 0, 0) _
  unfold h_An_putText at hd
  refine am_steps ok_An_putText 2 (x' := (2, [some (.ref 7), some (.ref (am_M + (10 + a))), some (.int 0)], [], h0, 0, 0)) rfl (Nat.le_of_ble_eq_true rfl) (Nat.le_of_ble_eq_true rfl) ?_
  obtain ⟨q31, hq32, hd33⟩ := Option.bind_eq_some_iff.mp hd; clear hd; have hd := hd33; clear hd33
  refine Lc_An_putText_2 S.1 h0 100000 a 0 S h0 hR hF.rf hE.rf  q31 hq32 (fun h34 hR35 f36 e37 => ?_)
  show am_S _ _ _ _ _ _ _ (25, [some (.ref 7), some (.ref (am_M + (10 + a))), none], [], h34, 0, 0) _
  cases hd; exact am_ret ok_An_putText rfl (Nat.le_of_ble_eq_true rfl) (Nat.le_of_ble_eq_true rfl) ⟨rfl, hR35, f36, (hE.rf.tr e37)⟩
def h_An_putLine (a : Nat) (S : hS) : Option (hS) := (h_An_putText a S).bind fun q1 => ((h_An_put 10 q1).bind fun q12 => (some q12))
set_option maxHeartbeats 4000000 in
set_option maxRecDepth 100000 in
theorem c_An_putLine (a : Nat) (S : hS) (h0 : am_H) (hR : RH S h0)  (q : hS) (hd : h_An_putLine a S = some q) : am_Me am_Pr none 5 107 0 0 101 [.ref 7, .ref (am_M + (10 + a))] h0 (hQv q S.1 h0) := by
  refine am_enter (d := hd_An_putLine) rfl (by decide +kernel) (Nat.le_of_ble_eq_true rfl) ?_
  show am_S _ _ _ _ _ _ _ (0, [some (.ref 7), some (.ref (am_M + (10 + a)))], [], h0, 0, 0) _
  unfold h_An_putLine at hd
  refine am_steps ok_An_putLine 2 (x' := (2, [some (.ref 7), some (.ref (am_M + (10 + a)))], [.ref (am_M + (10 + a)), .ref 7], h0, 0, 0)) rfl (Nat.le_of_ble_eq_true rfl) (Nat.le_of_ble_eq_true rfl) ?_
  obtain ⟨q1, hq2, hd3⟩ := Option.bind_eq_some_iff.mp hd; clear hd; have hd := hd3; clear hd3
  refine ar_cv ok_An_putLine hk_An_putText rfl rfl (As := [.ref (am_M + (10 + a))]) (ad := 7) (rest := []) rfl rfl (hR.ob (hs_k hR (a := 7) rfl) (Nat.le_of_ble_eq_true rfl)) (Nat.le_of_ble_eq_true rfl) (c_An_putText a S h0 hR  q1 hq2) (Nat.le_of_ble_eq_true rfl) (Nat.le_of_ble_eq_true rfl) (Nat.le_of_ble_eq_true rfl) (Nat.le_of_ble_eq_true rfl) (pc' := 5) rfl (fun r4 h6 z5 => ?_)
  obtain ⟨rfl, hR8, g9, e10⟩ := z5
  have f11 := hF.tr hF.rf g9
  show am_S _ _ _ _ _ _ _ (5, [some (.ref 7), some (.ref (am_M + (10 + a)))], [], h6, 0, 0) _
  refine am_steps ok_An_putLine 2 (x' := (8, [some (.ref 7), some (.ref (am_M + (10 + a)))], [.int 10, .ref 7], h6, 0, 0)) rfl (Nat.le_of_ble_eq_true rfl) (Nat.le_of_ble_eq_true rfl) ?_
  obtain ⟨q12, hq13, hd14⟩ := Option.bind_eq_some_iff.mp hd; clear hd; have hd := hd14; clear hd14
  refine ar_cv ok_An_putLine hk_An_put rfl rfl (As := [.int 10]) (ad := 7) (rest := []) rfl rfl (hR8.ob (hs_k hR8 (a := 7) rfl) (Nat.le_of_ble_eq_true rfl)) (Nat.le_of_ble_eq_true rfl) (c_An_put 10 q1 h6 hR8  q12 hq13) (Nat.le_of_ble_eq_true rfl) (Nat.le_of_ble_eq_true rfl) (Nat.le_of_ble_eq_true rfl) (Nat.le_of_ble_eq_true rfl) (pc' := 11) rfl (fun r15 h17 z16 => ?_)
  obtain ⟨rfl, hR19, g20, e21⟩ := z16
  have f22 := hF.tr f11 g20
  show am_S _ _ _ _ _ _ _ (11, [some (.ref 7), some (.ref (am_M + (10 + a)))], [], h17, 0, 0) _
  cases hd; exact am_ret ok_An_putLine rfl (Nat.le_of_ble_eq_true rfl) (Nat.le_of_ble_eq_true rfl) ⟨rfl, hR19, f22, ((hE.rf.tr e10).tr e21)⟩
def h_An_putVerdict (a : Int32) (S : hS) : Option (hS) := if ¬ (a : Int32) = (-1) then ((h_An_putText 1 S).bind fun q2 => ((h_An_put (48 + (a / 10)) q2).bind fun q13 => ((h_An_put (48 + (a - a / 10 * 10)) q13).bind fun q24 => ((h_An_put 10 q24).bind fun q35 => (some q35))))) else ((h_An_putLine 0 S).bind fun q46 => (some q46))
set_option maxHeartbeats 4000000 in
set_option maxRecDepth 100000 in
theorem c_An_putVerdict (a : Int32) (S : hS) (h0 : am_H) (hR : RH S h0)  (q : hS) (hd : h_An_putVerdict a S = some q) : am_Me am_Pr none 6 128 0 0 102 [.ref 7, .int a] h0 (hQv q S.1 h0) := by
  refine am_enter (d := hd_An_putVerdict) rfl (by decide +kernel) (Nat.le_of_ble_eq_true rfl) ?_
  show am_S _ _ _ _ _ _ _ (0, [some (.ref 7), some (.int a)], [], h0, 0, 0) _
  unfold h_An_putVerdict at hd
  refine am_steps ok_An_putVerdict 3 (x' := (if ¬ (a : Int32) = (-1) then 12 else 5, [some (.ref 7), some (.int a)], [], h0, 0, 0)) rfl (Nat.le_of_ble_eq_true rfl) (Nat.le_of_ble_eq_true rfl) ?_
  refine am_if (fun hc1 => ?_) (fun hc1 => ?_)
  · rw [if_pos hc1] at hd
    refine am_steps ok_An_putVerdict 1 (x' := (13, [some (.ref 7), some (.int a)], [.ref 7], h0, 0, 0)) rfl (Nat.le_of_ble_eq_true rfl) (Nat.le_of_ble_eq_true rfl) ?_
    refine ao_ldcS (d0 := hd_An_putVerdict) rfl (x := 51) (t := 1) (by decide +kernel) rfl (pc' := 15) rfl ?_
    obtain ⟨q2, hq3, hd4⟩ := Option.bind_eq_some_iff.mp hd; clear hd; have hd := hd4; clear hd4
    refine ar_cv ok_An_putVerdict hk_An_putText rfl rfl (As := [.ref (am_M + (10 + 1))]) (ad := 7) (rest := []) rfl rfl (hR.ob (hs_k hR (a := 7) rfl) (Nat.le_of_ble_eq_true rfl)) (Nat.le_of_ble_eq_true rfl) (c_An_putText 1 S h0 hR  q2 hq3) (Nat.le_of_ble_eq_true rfl) (Nat.le_of_ble_eq_true rfl) (Nat.le_of_ble_eq_true rfl) (Nat.le_of_ble_eq_true rfl) (pc' := 18) rfl (fun r5 h7 z6 => ?_)
    obtain ⟨rfl, hR9, g10, e11⟩ := z6
    have f12 := hF.tr hF.rf g10
    show am_S _ _ _ _ _ _ _ (18, [some (.ref 7), some (.int a)], [], h7, 0, 0) _
    refine am_steps ok_An_putVerdict 4 (x' := (24, [some (.ref 7), some (.int a)], [.int 10, .int a, .int 48, .ref 7], h7, 0, 0)) rfl (Nat.le_of_ble_eq_true rfl) (Nat.le_of_ble_eq_true rfl) ?_
    refine ar_idiv ok_An_putVerdict rfl (by decide +kernel) (w := (a / 10)) rfl (pc' := 25) rfl (Nat.le_of_ble_eq_true rfl) (Nat.le_of_ble_eq_true rfl) ?_
    refine am_steps ok_An_putVerdict 1 (x' := (26, [some (.ref 7), some (.int a)], [.int (48 + (a / 10)), .ref 7], h7, 0, 0)) rfl (Nat.le_of_ble_eq_true rfl) (Nat.le_of_ble_eq_true rfl) ?_
    obtain ⟨q13, hq14, hd15⟩ := Option.bind_eq_some_iff.mp hd; clear hd; have hd := hd15; clear hd15
    refine ar_cv ok_An_putVerdict hk_An_put rfl rfl (As := [.int (48 + (a / 10))]) (ad := 7) (rest := []) rfl rfl (hR9.ob (hs_k hR9 (a := 7) rfl) (Nat.le_of_ble_eq_true rfl)) (Nat.le_of_ble_eq_true rfl) (c_An_put (48 + (a / 10)) q2 h7 hR9  q13 hq14) (Nat.le_of_ble_eq_true rfl) (Nat.le_of_ble_eq_true rfl) (Nat.le_of_ble_eq_true rfl) (Nat.le_of_ble_eq_true rfl) (pc' := 29) rfl (fun r16 h18 z17 => ?_)
    obtain ⟨rfl, hR20, g21, e22⟩ := z17
    have f23 := hF.tr f12 g21
    show am_S _ _ _ _ _ _ _ (29, [some (.ref 7), some (.int a)], [], h18, 0, 0) _
    refine am_steps ok_An_putVerdict 4 (x' := (35, [some (.ref 7), some (.int a)], [.int 10, .int a, .int 48, .ref 7], h18, 0, 0)) rfl (Nat.le_of_ble_eq_true rfl) (Nat.le_of_ble_eq_true rfl) ?_
    refine ar_irem ok_An_putVerdict rfl (by decide +kernel) (w := (a - a / 10 * 10)) rfl (pc' := 36) rfl (Nat.le_of_ble_eq_true rfl) (Nat.le_of_ble_eq_true rfl) ?_
    refine am_steps ok_An_putVerdict 1 (x' := (37, [some (.ref 7), some (.int a)], [.int (48 + (a - a / 10 * 10)), .ref 7], h18, 0, 0)) rfl (Nat.le_of_ble_eq_true rfl) (Nat.le_of_ble_eq_true rfl) ?_
    obtain ⟨q24, hq25, hd26⟩ := Option.bind_eq_some_iff.mp hd; clear hd; have hd := hd26; clear hd26
    refine ar_cv ok_An_putVerdict hk_An_put rfl rfl (As := [.int (48 + (a - a / 10 * 10))]) (ad := 7) (rest := []) rfl rfl (hR20.ob (hs_k hR20 (a := 7) rfl) (Nat.le_of_ble_eq_true rfl)) (Nat.le_of_ble_eq_true rfl) (c_An_put (48 + (a - a / 10 * 10)) q13 h18 hR20  q24 hq25) (Nat.le_of_ble_eq_true rfl) (Nat.le_of_ble_eq_true rfl) (Nat.le_of_ble_eq_true rfl) (Nat.le_of_ble_eq_true rfl) (pc' := 40) rfl (fun r27 h29 z28 => ?_)
    obtain ⟨rfl, hR31, g32, e33⟩ := z28
    have f34 := hF.tr f23 g32
    show am_S _ _ _ _ _ _ _ (40, [some (.ref 7), some (.int a)], [], h29, 0, 0) _
    refine am_steps ok_An_putVerdict 2 (x' := (43, [some (.ref 7), some (.int a)], [.int 10, .ref 7], h29, 0, 0)) rfl (Nat.le_of_ble_eq_true rfl) (Nat.le_of_ble_eq_true rfl) ?_
    obtain ⟨q35, hq36, hd37⟩ := Option.bind_eq_some_iff.mp hd; clear hd; have hd := hd37; clear hd37
    refine ar_cv ok_An_putVerdict hk_An_put rfl rfl (As := [.int 10]) (ad := 7) (rest := []) rfl rfl (hR31.ob (hs_k hR31 (a := 7) rfl) (Nat.le_of_ble_eq_true rfl)) (Nat.le_of_ble_eq_true rfl) (c_An_put 10 q24 h29 hR31  q35 hq36) (Nat.le_of_ble_eq_true rfl) (Nat.le_of_ble_eq_true rfl) (Nat.le_of_ble_eq_true rfl) (Nat.le_of_ble_eq_true rfl) (pc' := 46) rfl (fun r38 h40 z39 => ?_)
    obtain ⟨rfl, hR42, g43, e44⟩ := z39
    have f45 := hF.tr f34 g43
    show am_S _ _ _ _ _ _ _ (46, [some (.ref 7), some (.int a)], [], h40, 0, 0) _
    cases hd; exact am_ret ok_An_putVerdict rfl (Nat.le_of_ble_eq_true rfl) (Nat.le_of_ble_eq_true rfl) ⟨rfl, hR42, f45, ((((hE.rf.tr e11).tr e22).tr e33).tr e44)⟩
  · rw [if_neg hc1] at hd
    refine am_steps ok_An_putVerdict 1 (x' := (6, [some (.ref 7), some (.int a)], [.ref 7], h0, 0, 0)) rfl (Nat.le_of_ble_eq_true rfl) (Nat.le_of_ble_eq_true rfl) ?_
    refine ao_ldcS (d0 := hd_An_putVerdict) rfl (x := 46) (t := 0) (by decide +kernel) rfl (pc' := 8) rfl ?_
    obtain ⟨q46, hq47, hd48⟩ := Option.bind_eq_some_iff.mp hd; clear hd; have hd := hd48; clear hd48
    refine ar_cv ok_An_putVerdict hk_An_putLine rfl rfl (As := [.ref (am_M + (10 + 0))]) (ad := 7) (rest := []) rfl rfl (hR.ob (hs_k hR (a := 7) rfl) (Nat.le_of_ble_eq_true rfl)) (Nat.le_of_ble_eq_true rfl) (c_An_putLine 0 S h0 hR  q46 hq47) (Nat.le_of_ble_eq_true rfl) (Nat.le_of_ble_eq_true rfl) (Nat.le_of_ble_eq_true rfl) (Nat.le_of_ble_eq_true rfl) (pc' := 11) rfl (fun r49 h51 z50 => ?_)
    obtain ⟨rfl, hR53, g54, e55⟩ := z50
    have f56 := hF.tr hF.rf g54
    show am_S _ _ _ _ _ _ _ (11, [some (.ref 7), some (.int a)], [], h51, 0, 0) _
    cases hd; exact am_ret ok_An_putVerdict rfl (Nat.le_of_ble_eq_true rfl) (Nat.le_of_ble_eq_true rfl) ⟨rfl, hR53, f56, (hE.rf.tr e55)⟩
def h_Di_writeBlock  (S : hS) : Option (Int32 × hS) := if ¬ ((S.2.1 601 9) : Int32) = 0 then ((if ((S.2.1 601 9) : Int32) ≤ 0 then (some S) else (some (hpI S 601 9 ((S.2.1 601 9) - 1)))).bind fun (u2 : hS) => (some (1, (hpI u2 602 9 ((u2.2.1 602 9) + 1))))) else (some (0, (hpI (hpI S 600 9 0) 601 9 (-1))))
set_option maxHeartbeats 4000000 in
set_option maxRecDepth 100000 in
theorem c_Di_writeBlock  (S : hS) (h0 : am_H) (hR : RH S h0)  (q : Int32 × hS) (hd : h_Di_writeBlock  S = some q) : am_Me am_Pr none 0 0 0 0 163 [.ref 9] h0 (hQr (.int q.1) q.2 S.1 h0) := by
  refine am_enter (d := hd_Di_writeBlock) rfl (by decide +kernel) (Nat.le_of_ble_eq_true rfl) ?_
  show am_S _ _ _ _ _ _ _ (0, [some (.ref 9)], [], h0, 0, 0) _
  unfold h_Di_writeBlock at hd
  refine am_steps ok_Di_writeBlock 1 (x' := (1, [some (.ref 9)], [.ref 9], h0, 0, 0)) rfl (Nat.le_of_ble_eq_true rfl) (Nat.le_of_ble_eq_true rfl) ?_
  refine hr_get ok_Di_writeBlock rfl hR (kd := 6) (hs_k hR (a := 9) rfl) rfl (Nat.le_of_ble_eq_true rfl) (Nat.le_of_ble_eq_true rfl) (v := .int (S.2.1 601 9)) rfl (pc' := 4) rfl (Nat.le_of_ble_eq_true rfl) (Nat.le_of_ble_eq_true rfl) ?_
  refine am_steps ok_Di_writeBlock 1 (x' := (if ¬ ((S.2.1 601 9) : Int32) = 0 then 19 else 7, [some (.ref 9)], [], h0, 0, 0)) rfl (Nat.le_of_ble_eq_true rfl) (Nat.le_of_ble_eq_true rfl) ?_
  refine am_if (fun hc1 => ?_) (fun hc1 => ?_)
  · rw [if_pos hc1] at hd
    refine am_steps ok_Di_writeBlock 1 (x' := (20, [some (.ref 9)], [.ref 9], h0, 0, 0)) rfl (Nat.le_of_ble_eq_true rfl) (Nat.le_of_ble_eq_true rfl) ?_
    refine hr_get ok_Di_writeBlock rfl hR (kd := 6) (hs_k hR (a := 9) rfl) rfl (Nat.le_of_ble_eq_true rfl) (Nat.le_of_ble_eq_true rfl) (v := .int (S.2.1 601 9)) rfl (pc' := 23) rfl (Nat.le_of_ble_eq_true rfl) (Nat.le_of_ble_eq_true rfl) ?_
    refine am_steps ok_Di_writeBlock 1 (x' := (if ((S.2.1 601 9) : Int32) ≤ 0 then 36 else 26, [some (.ref 9)], [], h0, 0, 0)) rfl (Nat.le_of_ble_eq_true rfl) (Nat.le_of_ble_eq_true rfl) ?_
    obtain ⟨u2, hA4, hB5⟩ := Option.bind_eq_some_iff.mp hd; clear hd
    have K3 : ∀ h' : am_H, RH u2 h' → hF h0 h' → hE S.1 u2.1 → am_S am_Pr none 0 0 0 0 163 (36, [some (.ref 9)], [], h', 0, 0) (hQr (.int q.1) q.2 S.1 h0) := by
      have hd := hB5
      intro h6 hR7 f8 e9
      refine am_steps ok_Di_writeBlock 2 (x' := (38, [some (.ref 9)], [.ref 9, .ref 9], h6, 0, 0)) rfl (Nat.le_of_ble_eq_true rfl) (Nat.le_of_ble_eq_true rfl) ?_
      refine hr_get ok_Di_writeBlock rfl hR7 (kd := 6) (hs_k hR7 (a := 9) rfl) rfl (Nat.le_of_ble_eq_true rfl) (Nat.le_of_ble_eq_true rfl) (v := .int (u2.2.1 602 9)) rfl (pc' := 41) rfl (Nat.le_of_ble_eq_true rfl) (Nat.le_of_ble_eq_true rfl) ?_
      refine am_steps ok_Di_writeBlock 2 (x' := (43, [some (.ref 9)], [.int ((u2.2.1 602 9) + 1), .ref 9], h6, 0, 0)) rfl (Nat.le_of_ble_eq_true rfl) (Nat.le_of_ble_eq_true rfl) ?_
      refine hr_put ok_Di_writeBlock rfl hR7 (kd := 6) (hs_k hR7 (a := 9) rfl) rfl (Nat.le_of_ble_eq_true rfl) (Nat.le_of_ble_eq_true rfl) rfl (S' := (hpI u2 602 9 ((u2.2.1 602 9) + 1))) rfl (hWT.up hR7.2.2 rfl rfl rfl) (pc' := 46) rfl (Nat.le_of_ble_eq_true rfl) (Nat.le_of_ble_eq_true rfl) (fun h10 hR11 g12 => ?_)
      have f13 := hF.tr f8 g12
      refine am_steps ok_Di_writeBlock 1 (x' := (47, [some (.ref 9)], [.int 1], h10, 0, 0)) rfl (Nat.le_of_ble_eq_true rfl) (Nat.le_of_ble_eq_true rfl) ?_
      cases hd; exact am_ret ok_Di_writeBlock rfl (Nat.le_of_ble_eq_true rfl) (Nat.le_of_ble_eq_true rfl) ⟨rfl, hR11, f13, (hE.rf.tr e9)⟩
    clear hB5; have hd := hA4; clear hA4
    refine am_if (fun hc14 => ?_) (fun hc14 => ?_)
    · rw [if_pos hc14] at hd
      cases hd; exact K3 h0 hR hF.rf hE.rf
    · rw [if_neg hc14] at hd
      refine am_steps ok_Di_writeBlock 2 (x' := (28, [some (.ref 9)], [.ref 9, .ref 9], h0, 0, 0)) rfl (Nat.le_of_ble_eq_true rfl) (Nat.le_of_ble_eq_true rfl) ?_
      refine hr_get ok_Di_writeBlock rfl hR (kd := 6) (hs_k hR (a := 9) rfl) rfl (Nat.le_of_ble_eq_true rfl) (Nat.le_of_ble_eq_true rfl) (v := .int (S.2.1 601 9)) rfl (pc' := 31) rfl (Nat.le_of_ble_eq_true rfl) (Nat.le_of_ble_eq_true rfl) ?_
      refine am_steps ok_Di_writeBlock 2 (x' := (33, [some (.ref 9)], [.int ((S.2.1 601 9) - 1), .ref 9], h0, 0, 0)) rfl (Nat.le_of_ble_eq_true rfl) (Nat.le_of_ble_eq_true rfl) ?_
      refine hr_put ok_Di_writeBlock rfl hR (kd := 6) (hs_k hR (a := 9) rfl) rfl (Nat.le_of_ble_eq_true rfl) (Nat.le_of_ble_eq_true rfl) rfl (S' := (hpI S 601 9 ((S.2.1 601 9) - 1))) rfl (hWT.up hR.2.2 rfl rfl rfl) (pc' := 36) rfl (Nat.le_of_ble_eq_true rfl) (Nat.le_of_ble_eq_true rfl) (fun h15 hR16 g17 => ?_)
      have f18 := hF.tr hF.rf g17
      cases hd; exact K3 h15 hR16 f18 hE.rf
  · rw [if_neg hc1] at hd
    refine am_steps ok_Di_writeBlock 2 (x' := (9, [some (.ref 9)], [.int 0, .ref 9], h0, 0, 0)) rfl (Nat.le_of_ble_eq_true rfl) (Nat.le_of_ble_eq_true rfl) ?_
    refine hr_put ok_Di_writeBlock rfl hR (kd := 6) (hs_k hR (a := 9) rfl) rfl (Nat.le_of_ble_eq_true rfl) (Nat.le_of_ble_eq_true rfl) rfl (S' := (hpI S 600 9 0)) rfl (hWT.up hR.2.2 rfl rfl rfl) (pc' := 12) rfl (Nat.le_of_ble_eq_true rfl) (Nat.le_of_ble_eq_true rfl) (fun h19 hR20 g21 => ?_)
    have f22 := hF.tr hF.rf g21
    refine am_steps ok_Di_writeBlock 2 (x' := (14, [some (.ref 9)], [.int (-1), .ref 9], h19, 0, 0)) rfl (Nat.le_of_ble_eq_true rfl) (Nat.le_of_ble_eq_true rfl) ?_
    refine hr_put ok_Di_writeBlock rfl hR20 (kd := 6) (hs_k hR20 (a := 9) rfl) rfl (Nat.le_of_ble_eq_true rfl) (Nat.le_of_ble_eq_true rfl) rfl (S' := (hpI (hpI S 600 9 0) 601 9 (-1))) rfl (hWT.up hR20.2.2 rfl rfl rfl) (pc' := 17) rfl (Nat.le_of_ble_eq_true rfl) (Nat.le_of_ble_eq_true rfl) (fun h23 hR24 g25 => ?_)
    have f26 := hF.tr f22 g25
    refine am_steps ok_Di_writeBlock 1 (x' := (18, [some (.ref 9)], [.int 0], h23, 0, 0)) rfl (Nat.le_of_ble_eq_true rfl) (Nat.le_of_ble_eq_true rfl) ?_
    cases hd; exact am_ret ok_Di_writeBlock rfl (Nat.le_of_ble_eq_true rfl) (Nat.le_of_ble_eq_true rfl) ⟨rfl, hR24, f26, hE.rf⟩
def hl_Di_writeRecord_27 : Nat → Int32 → Int32 → Int32 → hS → Option (Int32 × hS)
  | 0, _, _, _, _ => none
  | fu + 1, v2, v3, v4, s => if (v3 : Int32) < v4 then (some (1, (hpI s 603 9 v2))) else ((h_Di_writeBlock  s).bind fun q6 => (if ¬ (q6.1 : Int32) = 0 then (hl_Di_writeRecord_27 fu v2 v3 (v4 + 1) q6.2) else (some (0, q6.2))))
set_option maxHeartbeats 4000000 in
set_option maxRecDepth 100000 in
theorem Lc_Di_writeRecord_27 (sh0 : List (Nat × Nat)) (h0 : am_H) : ∀ (fu : Nat) (v2 : Int32) (v3 : Int32) (v4 : Int32) (s : hS) (h : am_H), RH s h → hF h0 h → hE sh0 s.1 → ∀ q : Int32 × hS, hl_Di_writeRecord_27 fu v2 v3 v4 s = some q → am_S am_Pr none 1 20 0 0 164 (27, [some (.ref 9), none, some (.int v2), some (.int v3), some (.int v4)], [], h, 0, 0) (hQr (.int q.1) q.2 sh0 h0) := by
  intro fu
  induction fu with
  | zero => intro v2 v3 v4 s h hR f he  q hd; cases hd
  | succ fu ih =>
    intro v2 v3 v4 s h hR f he  q hd
    unfold hl_Di_writeRecord_27 at hd
    refine am_steps ok_Di_writeRecord 3 (x' := (if (v3 : Int32) < v4 then 48 else 33, [some (.ref 9), none, some (.int v2), some (.int v3), some (.int v4)], [], h, 0, 0)) rfl (Nat.le_of_ble_eq_true rfl) (Nat.le_of_ble_eq_true rfl) ?_
    refine am_if (fun hc1 => ?_) (fun hc1 => ?_)
    · rw [if_pos hc1] at hd
      refine am_steps ok_Di_writeRecord 2 (x' := (50, [some (.ref 9), none, some (.int v2), some (.int v3), some (.int v4)], [.int v2, .ref 9], h, 0, 0)) rfl (Nat.le_of_ble_eq_true rfl) (Nat.le_of_ble_eq_true rfl) ?_
      refine hr_put ok_Di_writeRecord rfl hR (kd := 6) (hs_k hR (a := 9) rfl) rfl (Nat.le_of_ble_eq_true rfl) (Nat.le_of_ble_eq_true rfl) rfl (S' := (hpI s 603 9 v2)) rfl (hWT.up hR.2.2 rfl rfl rfl) (pc' := 53) rfl (Nat.le_of_ble_eq_true rfl) (Nat.le_of_ble_eq_true rfl) (fun h2 hR3 g4 => ?_)
      have f5 := hF.tr f g4
      refine am_steps ok_Di_writeRecord 1 (x' := (54, [some (.ref 9), none, some (.int v2), some (.int v3), some (.int v4)], [.int 1], h2, 0, 0)) rfl (Nat.le_of_ble_eq_true rfl) (Nat.le_of_ble_eq_true rfl) ?_
      cases hd; exact am_ret ok_Di_writeRecord rfl (Nat.le_of_ble_eq_true rfl) (Nat.le_of_ble_eq_true rfl) ⟨rfl, hR3, f5, he⟩
    · rw [if_neg hc1] at hd
      refine am_steps ok_Di_writeRecord 1 (x' := (34, [some (.ref 9), none, some (.int v2), some (.int v3), some (.int v4)], [.ref 9], h, 0, 0)) rfl (Nat.le_of_ble_eq_true rfl) (Nat.le_of_ble_eq_true rfl) ?_
      obtain ⟨q6, hq7, hd8⟩ := Option.bind_eq_some_iff.mp hd; clear hd; have hd := hd8; clear hd8
      refine ar_cv ok_Di_writeRecord hk_Di_writeBlock rfl rfl (As := []) (ad := 9) (rest := []) rfl rfl (hR.ob (hs_k hR (a := 9) rfl) (Nat.le_of_ble_eq_true rfl)) (Nat.le_of_ble_eq_true rfl) (c_Di_writeBlock  s h hR  q6 hq7) (Nat.le_of_ble_eq_true rfl) (Nat.le_of_ble_eq_true rfl) (Nat.le_of_ble_eq_true rfl) (Nat.le_of_ble_eq_true rfl) (pc' := 37) rfl (fun r9 h11 z10 => ?_)
      obtain ⟨rfl, hR13, g14, e15⟩ := z10
      have f16 := hF.tr f g14
      show am_S _ _ _ _ _ _ _ (37, [some (.ref 9), none, some (.int v2), some (.int v3), some (.int v4)], [.int q6.1], h11, 0, 0) _
      refine am_steps ok_Di_writeRecord 1 (x' := (if ¬ (q6.1 : Int32) = 0 then 42 else 40, [some (.ref 9), none, some (.int v2), some (.int v3), some (.int v4)], [], h11, 0, 0)) rfl (Nat.le_of_ble_eq_true rfl) (Nat.le_of_ble_eq_true rfl) ?_
      refine am_if (fun hc17 => ?_) (fun hc17 => ?_)
      · rw [if_pos hc17] at hd
        refine am_steps ok_Di_writeRecord 2 (x' := (27, [some (.ref 9), none, some (.int v2), some (.int v3), some (.int (v4 + 1))], [], h11, 0, 0)) rfl (Nat.le_of_ble_eq_true rfl) (Nat.le_of_ble_eq_true rfl) ?_
        exact ih v2 v3 (v4 + 1) q6.2 h11 hR13 f16 (he.tr e15)  q hd
      · rw [if_neg hc17] at hd
        refine am_steps ok_Di_writeRecord 1 (x' := (41, [some (.ref 9), none, some (.int v2), some (.int v3), some (.int v4)], [.int 0], h11, 0, 0)) rfl (Nat.le_of_ble_eq_true rfl) (Nat.le_of_ble_eq_true rfl) ?_
        cases hd; exact am_ret ok_Di_writeRecord rfl (Nat.le_of_ble_eq_true rfl) (Nat.le_of_ble_eq_true rfl) ⟨rfl, hR13, f16, (he.tr e15)⟩
def h_Di_writeRecord (a : Int32) (S : hS) : Option (Int32 × hS) := hl_Di_writeRecord_27 100000 (((S.2.1 603 9) + 4) + a) (((((S.2.1 603 9) + 4) + a) - 1) / 500) ((S.2.1 603 9) / 500) S
set_option maxHeartbeats 4000000 in
set_option maxRecDepth 100000 in
theorem c_Di_writeRecord (a : Int32) (S : hS) (h0 : am_H) (hR : RH S h0)  (q : Int32 × hS) (hd : h_Di_writeRecord a S = some q) : am_Me am_Pr none 1 20 0 0 164 [.ref 9, .int a] h0 (hQr (.int q.1) q.2 S.1 h0) := by
  refine am_enter (d := hd_Di_writeRecord) rfl (by decide +kernel) (Nat.le_of_ble_eq_true rfl) ?_
  show am_S _ _ _ _ _ _ _ (0, [some (.ref 9), some (.int a), none, none, none], [], h0, 0, 0) _
  unfold h_Di_writeRecord at hd
  refine am_steps ok_Di_writeRecord 1 (x' := (1, [some (.ref 9), some (.int a), none, none, none], [.ref 9], h0, 0, 0)) rfl (Nat.le_of_ble_eq_true rfl) (Nat.le_of_ble_eq_true rfl) ?_
  refine hr_get ok_Di_writeRecord rfl hR (kd := 6) (hs_k hR (a := 9) rfl) rfl (Nat.le_of_ble_eq_true rfl) (Nat.le_of_ble_eq_true rfl) (v := .int (S.2.1 603 9)) rfl (pc' := 4) rfl (Nat.le_of_ble_eq_true rfl) (Nat.le_of_ble_eq_true rfl) ?_
  refine am_steps ok_Di_writeRecord 9 (x' := (15, [some (.ref 9), some (.int a), some (.int (((S.2.1 603 9) + 4) + a)), none, none], [.int 500, .int ((((S.2.1 603 9) + 4) + a) - 1)], h0, 0, 0)) rfl (Nat.le_of_ble_eq_true rfl) (Nat.le_of_ble_eq_true rfl) ?_
  refine ar_idiv ok_Di_writeRecord rfl (by decide +kernel) (w := (((((S.2.1 603 9) + 4) + a) - 1) / 500)) rfl (pc' := 16) rfl (Nat.le_of_ble_eq_true rfl) (Nat.le_of_ble_eq_true rfl) ?_
  refine am_steps ok_Di_writeRecord 2 (x' := (18, [some (.ref 9), some (.int a), some (.int (((S.2.1 603 9) + 4) + a)), some (.int (((((S.2.1 603 9) + 4) + a) - 1) / 500)), none], [.ref 9], h0, 0, 0)) rfl (Nat.le_of_ble_eq_true rfl) (Nat.le_of_ble_eq_true rfl) ?_
  refine hr_get ok_Di_writeRecord rfl hR (kd := 6) (hs_k hR (a := 9) rfl) rfl (Nat.le_of_ble_eq_true rfl) (Nat.le_of_ble_eq_true rfl) (v := .int (S.2.1 603 9)) rfl (pc' := 21) rfl (Nat.le_of_ble_eq_true rfl) (Nat.le_of_ble_eq_true rfl) ?_
  refine am_steps ok_Di_writeRecord 1 (x' := (24, [some (.ref 9), some (.int a), some (.int (((S.2.1 603 9) + 4) + a)), some (.int (((((S.2.1 603 9) + 4) + a) - 1) / 500)), none], [.int 500, .int (S.2.1 603 9)], h0, 0, 0)) rfl (Nat.le_of_ble_eq_true rfl) (Nat.le_of_ble_eq_true rfl) ?_
  refine ar_idiv ok_Di_writeRecord rfl (by decide +kernel) (w := ((S.2.1 603 9) / 500)) rfl (pc' := 25) rfl (Nat.le_of_ble_eq_true rfl) (Nat.le_of_ble_eq_true rfl) ?_
  refine am_steps ok_Di_writeRecord 1 (x' := (27, [some (.ref 9), some (.int a), some (.int (((S.2.1 603 9) + 4) + a)), some (.int (((((S.2.1 603 9) + 4) + a) - 1) / 500)), some (.int ((S.2.1 603 9) / 500))], [], h0, 0, 0)) rfl (Nat.le_of_ble_eq_true rfl) (Nat.le_of_ble_eq_true rfl) ?_
  refine am_drop 1 ?_
  exact Lc_Di_writeRecord_27 S.1 h0 100000 (((S.2.1 603 9) + 4) + a) (((((S.2.1 603 9) + 4) + a) - 1) / 500) ((S.2.1 603 9) / 500) S h0 hR hF.rf hE.rf  q hd
