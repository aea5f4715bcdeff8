/-! Methods of the reference as functions of its state. -/
def d_Mo_does  (s : mS) : Option (mS) := (d_Mo_assetAt 15 s).bind fun q1 => ((d_Mo_memberAt 15 s).bind fun q12 => (if (s.1 4) = 0 then ((d_Mo_packed 15 4 s).bind fun q25 => ((am_ix (s.1 10) 256).bind fun j36 => (some (mI (mB s 26 j36 q25) 10 ((s.1 10) + 1))))) else (if (s.1 4) = 1 then ((d_Mo_packed 15 3 s).bind fun q50 => ((am_ix (s.1 15) 64).bind fun j61 => ((am_ix 18 400).bind fun j68 => ((if ¬ ((s.2.2.1 24 j68) : Int32) = 67 then (some 0) else (some 1)).bind fun (u71 : Int32) => ((d_Mo_number 19 15 (mA (mB s 27 j61 q50) 28 j61 (am_bn 3 u71))).bind fun q79 => ((d_Mo_number 34 2 (mB (mA (mB s 27 j61 q50) 28 j61 (am_bn 3 u71)) 29 j61 q79)).bind fun q94 => ((if (((mA (mB s 27 j61 q50) 28 j61 (am_bn 3 u71)).2.2.1 28 j61) : Int32) = 0 then (some (mA (mB (mA (mB s 27 j61 q50) 28 j61 (am_bn 3 u71)) 29 j61 q79) 30 j61 (Int64.toInt32 q94))) else (if (0 : Int32) ≤ (s.1 16) then (some (mA (mB (mA (mB s 27 j61 q50) 28 j61 (am_bn 3 u71)) 29 j61 q79) 30 j61 (Int64.toInt32 q94))) else (some (mI (mA (mB (mA (mB s 27 j61 q50) 28 j61 (am_bn 3 u71)) 29 j61 q79) 30 j61 (Int64.toInt32 q94)) 16 (s.1 15))))).bind fun (u109 : mS) => (some (mI u109 15 ((u109.1 15) + 1)))))))))) else (if (s.1 4) = 2 then ((d_Mo_number 18 15 s).bind fun q130 => ((am_ix q1 64).bind fun j141 => ((d_Mo_number 33 2 (mB s 29 j141 q130)).bind fun q148 => (some (mA (mB s 29 j141 q130) 30 j141 (Int64.toInt32 q148)))))) else (if (s.1 4) = 3 ∨ (s.1 4) = 4 then ((if ¬ ((s.1 4) : Int32) = 3 then ((d_Mo_number 22 15 s).bind fun q200 => (some (-q200))) else ((d_Mo_number 22 15 s).bind fun q211 => (some q211))).bind fun (u166 : Int64) => ((d_Mo_move q1 (-u166) s).bind fun q170 => ((d_Mo_memberAt 18 q170).bind fun q179 => ((d_Mo_move ((64 * q179) + q1) u166 q170).bind fun q190 => (some q190))))) else (if (s.1 4) = 5 then ((d_Mo_comes  s).bind fun q225 => (some q225)) else (if (s.1 4) = 6 then ((d_Mo_packed 19 8 s).bind fun q237 => ((d_Mo_openOf q12 q237 s).bind fun q248 => ((d_Mo_agrees q248 s).bind fun q259 => (some q259)))) else (if (s.1 4) = 7 then ((d_Mo_packed 15 8 s).bind fun q271 => ((d_Mo_openOf (s.1 5) q271 s).bind fun q282 => ((d_Mo_drop q282 s).bind fun q293 => (some q293)))) else (if (s.1 4) = 8 then ((d_Mo_packed 15 8 s).bind fun q305 => ((d_Mo_openOf (s.1 5) q305 s).bind fun q316 => ((d_Mo_changes q316 s).bind fun q327 => (some q327)))) else (if (s.1 4) = 9 then ((am_ix ((256 * (s.1 5)) + q12) 65536).bind fun j339 => ((if (0 : Int32) ≤ (lg_cmp (s.2.2.2 38 j339) 0) then (some 0) else (some 1)).bind fun (u342 : Int32) => ((d_Mo_number 19 15 (mI s 25 ((s.1 25) + u342))).bind fun q350 => (some (mB (mI s 25 ((s.1 25) + u342)) 38 j339 q350))))) else (if (s.1 4) = 10 then ((am_ix ((256 * (s.1 5)) + q12) 65536).bind fun j373 => (some (mB (mI s 25 ((s.1 25) - 1)) 38 j373 (Int64.ofNat 18446744073709551615)))) else (if (s.1 4) = 11 then ((am_ix ((64 * (s.1 5)) + q1) 16384).bind fun j383 => ((d_Mo_number 18 15 s).bind fun q386 => (some (mB s 32 j383 ((s.2.2.2 32 j383) + q386))))) else (if (s.1 4) = 12 then ((am_ix ((64 * (s.1 5)) + q1) 16384).bind fun j404 => ((d_Mo_number 18 15 s).bind fun q407 => (some (mB s 32 j404 ((s.2.2.2 32 j404) - q407))))) else (some s))))))))))))))
set_option maxHeartbeats 4000000 in
set_option maxRecDepth 100000 in
theorem k_Mo_does  (s : mS) (h0 : am_H) (hM : RM s h0) (q : mS) (hd : d_Mo_does  s = some q) : am_Me am_Pr none 3 72 0 0 78 [.ref 22] h0 (mQv q h0) := by
  refine am_enter (d := hd_Mo_does) rfl (by decide +kernel) (Nat.le_of_ble_eq_true rfl) ?_
  show am_S _ _ _ _ _ _ _ (0, [some (.ref 22), none, none, none, none], [], h0, 0, 0) _
  unfold d_Mo_does at hd
  refine am_steps ok_Mo_does 2 (x' := (3, [some (.ref 22), none, none, none, none], [.int 15, .ref 22], h0, 0, 0)) rfl (Nat.le_of_ble_eq_true rfl) (Nat.le_of_ble_eq_true rfl) ?_
  obtain ⟨q1, hq2, hd3⟩ := Option.bind_eq_some_iff.mp hd; clear hd; have hd := hd3; clear hd3
  refine ar_cv ok_Mo_does hk_Mo_assetAt rfl rfl (As := [.int 15]) (ad := 22) (rest := []) rfl rfl hM.1 (Nat.le_of_ble_eq_true rfl) (k_Mo_assetAt 15 s h0 hM q1 hq2) (Nat.le_of_ble_eq_true rfl) (Nat.le_of_ble_eq_true rfl) (Nat.le_of_ble_eq_true rfl) (Nat.le_of_ble_eq_true rfl) (pc' := 6) rfl (fun r4 h6 z5 => ?_)
  obtain ⟨z10, z11⟩ := z5; subst z10; rw [z11]
  show am_S _ _ _ _ _ _ _ (6, [some (.ref 22), none, none, none, none], [.int q1], h0, 0, 0) _
  refine am_steps ok_Mo_does 3 (x' := (10, [some (.ref 22), some (.int q1), none, none, none], [.int 15, .ref 22], h0, 0, 0)) rfl (Nat.le_of_ble_eq_true rfl) (Nat.le_of_ble_eq_true rfl) ?_
  obtain ⟨q12, hq13, hd14⟩ := Option.bind_eq_some_iff.mp hd; clear hd; have hd := hd14; clear hd14
  refine ar_cv ok_Mo_does hk_Mo_memberAt rfl rfl (As := [.int 15]) (ad := 22) (rest := []) rfl rfl hM.1 (Nat.le_of_ble_eq_true rfl) (k_Mo_memberAt 15 s h0 hM q12 hq13) (Nat.le_of_ble_eq_true rfl) (Nat.le_of_ble_eq_true rfl) (Nat.le_of_ble_eq_true rfl) (Nat.le_of_ble_eq_true rfl) (pc' := 13) rfl (fun r15 h17 z16 => ?_)
  obtain ⟨z21, z22⟩ := z16; subst z21; rw [z22]
  show am_S _ _ _ _ _ _ _ (13, [some (.ref 22), some (.int q1), none, none, none], [.int q12], h0, 0, 0) _
  refine am_steps ok_Mo_does 2 (x' := (15, [some (.ref 22), some (.int q1), some (.int q12), none, none], [.ref 22], h0, 0, 0)) rfl (Nat.le_of_ble_eq_true rfl) (Nat.le_of_ble_eq_true rfl) ?_
  refine mr_get ok_Mo_does rfl hM (v := .int (s.1 4)) rfl (pc' := 18) rfl (Nat.le_of_ble_eq_true rfl) (Nat.le_of_ble_eq_true rfl) ?_
  by_cases hc23 : (s.1 4) = 0
  · rw [if_pos hc23] at hd
    have KT24 : am_S am_Pr none 3 72 0 0 78 (84, [some (.ref 22), some (.int q1), some (.int q12), none, none], [], h0, 0, 0) (mQv q h0) := by
      refine am_steps ok_Mo_does 1 (x' := (85, [some (.ref 22), some (.int q1), some (.int q12), none, none], [.ref 22], h0, 0, 0)) rfl (Nat.le_of_ble_eq_true rfl) (Nat.le_of_ble_eq_true rfl) ?_
      refine mr_get ok_Mo_does rfl hM (v := .ref 26) rfl (pc' := 88) rfl (Nat.le_of_ble_eq_true rfl) (Nat.le_of_ble_eq_true rfl) ?_
      refine am_steps ok_Mo_does 1 (x' := (89, [some (.ref 22), some (.int q1), some (.int q12), none, none], [.ref 22, .ref 26], h0, 0, 0)) rfl (Nat.le_of_ble_eq_true rfl) (Nat.le_of_ble_eq_true rfl) ?_
      refine mr_get ok_Mo_does rfl hM (v := .int (s.1 10)) rfl (pc' := 92) rfl (Nat.le_of_ble_eq_true rfl) (Nat.le_of_ble_eq_true rfl) ?_
      refine am_steps ok_Mo_does 3 (x' := (96, [some (.ref 22), some (.int q1), some (.int q12), none, none], [.int 4, .int 15, .ref 22, .int (s.1 10), .ref 26], h0, 0, 0)) rfl (Nat.le_of_ble_eq_true rfl) (Nat.le_of_ble_eq_true rfl) ?_
      obtain ⟨q25, hq26, hd27⟩ := Option.bind_eq_some_iff.mp hd; clear hd; have hd := hd27; clear hd27
      refine ar_cv ok_Mo_does hk_Mo_packed rfl rfl (As := [.int 15, .int 4]) (ad := 22) (rest := [.int (s.1 10), .ref 26]) rfl rfl hM.1 (Nat.le_of_ble_eq_true rfl) (k_Mo_packed 15 4 s h0 hM q25 hq26) (Nat.le_of_ble_eq_true rfl) (Nat.le_of_ble_eq_true rfl) (Nat.le_of_ble_eq_true rfl) (Nat.le_of_ble_eq_true rfl) (pc' := 99) rfl (fun r28 h30 z29 => ?_)
      obtain ⟨z34, z35⟩ := z29; subst z34; rw [z35]
      show am_S _ _ _ _ _ _ _ (99, [some (.ref 22), some (.int q1), some (.int q12), none, none], [.long q25, .int (s.1 10), .ref 26], h0, 0, 0) _
      obtain ⟨j36, hx37, hd38⟩ := Option.bind_eq_some_iff.mp hd; clear hd; have hd := hd38; clear hd38
      refine mr_last ok_Mo_does rfl hM (N := 256) (by decide) hx37 (pc' := 100) rfl (Nat.le_of_ble_eq_true rfl) (Nat.le_of_ble_eq_true rfl) (fun h39 hM40 g42 => ?_)
      have f41 := mF.tr (mF.rf) g42
      refine am_steps ok_Mo_does 2 (x' := (102, [some (.ref 22), some (.int q1), some (.int q12), none, none], [.ref 22, .ref 22], h39, 0, 0)) rfl (Nat.le_of_ble_eq_true rfl) (Nat.le_of_ble_eq_true rfl) ?_
      refine mr_get ok_Mo_does rfl hM40 (v := .int (s.1 10)) rfl (pc' := 105) rfl (Nat.le_of_ble_eq_true rfl) (Nat.le_of_ble_eq_true rfl) ?_
      refine am_steps ok_Mo_does 2 (x' := (107, [some (.ref 22), some (.int q1), some (.int q12), none, none], [.int ((s.1 10) + 1), .ref 22], h39, 0, 0)) rfl (Nat.le_of_ble_eq_true rfl) (Nat.le_of_ble_eq_true rfl) ?_
      refine mr_put ok_Mo_does rfl hM40 (by decide) rfl (s' := (mI (mB s 26 j36 q25) 10 ((s.1 10) + 1))) (mfs_10 _ _) rfl (pc' := 110) rfl (Nat.le_of_ble_eq_true rfl) (Nat.le_of_ble_eq_true rfl) (fun h43 hM44 g46 => ?_)
      have f45 := mF.tr f41 g46
      refine am_steps ok_Mo_does 1 (x' := (535, [some (.ref 22), some (.int q1), some (.int q12), none, none], [], h43, 0, 0)) rfl (Nat.le_of_ble_eq_true rfl) (Nat.le_of_ble_eq_true rfl) ?_
      cases hd; exact am_ret ok_Mo_does rfl (Nat.le_of_ble_eq_true rfl) (Nat.le_of_ble_eq_true rfl) ⟨rfl, hM44, f45⟩
    exact ar_tswk ok_Mo_does rfl hc23 (by decide +kernel) rfl rfl (Nat.le_of_ble_eq_true rfl) (Nat.le_of_ble_eq_true rfl) KT24
  rw [if_neg hc23] at hd
  by_cases hc48 : (s.1 4) = 1
  · rw [if_pos hc48] at hd
    have KT49 : am_S am_Pr none 3 72 0 0 78 (113, [some (.ref 22), some (.int q1), some (.int q12), none, none], [], h0, 0, 0) (mQv q h0) := by
      refine am_steps ok_Mo_does 1 (x' := (114, [some (.ref 22), some (.int q1), some (.int q12), none, none], [.ref 22], h0, 0, 0)) rfl (Nat.le_of_ble_eq_true rfl) (Nat.le_of_ble_eq_true rfl) ?_
      refine mr_get ok_Mo_does rfl hM (v := .ref 27) rfl (pc' := 117) rfl (Nat.le_of_ble_eq_true rfl) (Nat.le_of_ble_eq_true rfl) ?_
      refine am_steps ok_Mo_does 1 (x' := (118, [some (.ref 22), some (.int q1), some (.int q12), none, none], [.ref 22, .ref 27], h0, 0, 0)) rfl (Nat.le_of_ble_eq_true rfl) (Nat.le_of_ble_eq_true rfl) ?_
      refine mr_get ok_Mo_does rfl hM (v := .int (s.1 15)) rfl (pc' := 121) rfl (Nat.le_of_ble_eq_true rfl) (Nat.le_of_ble_eq_true rfl) ?_
      refine am_steps ok_Mo_does 3 (x' := (125, [some (.ref 22), some (.int q1), some (.int q12), none, none], [.int 3, .int 15, .ref 22, .int (s.1 15), .ref 27], h0, 0, 0)) rfl (Nat.le_of_ble_eq_true rfl) (Nat.le_of_ble_eq_true rfl) ?_
      obtain ⟨q50, hq51, hd52⟩ := Option.bind_eq_some_iff.mp hd; clear hd; have hd := hd52; clear hd52
      refine ar_cv ok_Mo_does hk_Mo_packed rfl rfl (As := [.int 15, .int 3]) (ad := 22) (rest := [.int (s.1 15), .ref 27]) rfl rfl hM.1 (Nat.le_of_ble_eq_true rfl) (k_Mo_packed 15 3 s h0 hM q50 hq51) (Nat.le_of_ble_eq_true rfl) (Nat.le_of_ble_eq_true rfl) (Nat.le_of_ble_eq_true rfl) (Nat.le_of_ble_eq_true rfl) (pc' := 128) rfl (fun r53 h55 z54 => ?_)
      obtain ⟨z59, z60⟩ := z54; subst z59; rw [z60]
      show am_S _ _ _ _ _ _ _ (128, [some (.ref 22), some (.int q1), some (.int q12), none, none], [.long q50, .int (s.1 15), .ref 27], h0, 0, 0) _
      obtain ⟨j61, hx62, hd63⟩ := Option.bind_eq_some_iff.mp hd; clear hd; have hd := hd63; clear hd63
      refine mr_last ok_Mo_does rfl hM (N := 64) (by decide) hx62 (pc' := 129) rfl (Nat.le_of_ble_eq_true rfl) (Nat.le_of_ble_eq_true rfl) (fun h64 hM65 g67 => ?_)
      have f66 := mF.tr (mF.rf) g67
      refine am_steps ok_Mo_does 1 (x' := (130, [some (.ref 22), some (.int q1), some (.int q12), none, none], [.ref 22], h64, 0, 0)) rfl (Nat.le_of_ble_eq_true rfl) (Nat.le_of_ble_eq_true rfl) ?_
      refine mr_get ok_Mo_does rfl hM65 (v := .ref 28) rfl (pc' := 133) rfl (Nat.le_of_ble_eq_true rfl) (Nat.le_of_ble_eq_true rfl) ?_
      refine am_steps ok_Mo_does 1 (x' := (134, [some (.ref 22), some (.int q1), some (.int q12), none, none], [.ref 22, .ref 28], h64, 0, 0)) rfl (Nat.le_of_ble_eq_true rfl) (Nat.le_of_ble_eq_true rfl) ?_
      refine mr_get ok_Mo_does rfl hM65 (v := .int (s.1 15)) rfl (pc' := 137) rfl (Nat.le_of_ble_eq_true rfl) (Nat.le_of_ble_eq_true rfl) ?_
      refine am_steps ok_Mo_does 1 (x' := (138, [some (.ref 22), some (.int q1), some (.int q12), none, none], [.ref 22, .int (s.1 15), .ref 28], h64, 0, 0)) rfl (Nat.le_of_ble_eq_true rfl) (Nat.le_of_ble_eq_true rfl) ?_
      refine mr_get ok_Mo_does rfl hM65 (v := .ref 24) rfl (pc' := 141) rfl (Nat.le_of_ble_eq_true rfl) (Nat.le_of_ble_eq_true rfl) ?_
      refine am_steps ok_Mo_does 1 (x' := (143, [some (.ref 22), some (.int q1), some (.int q12), none, none], [.int 18, .ref 24, .int (s.1 15), .ref 28], h64, 0, 0)) rfl (Nat.le_of_ble_eq_true rfl) (Nat.le_of_ble_eq_true rfl) ?_
      obtain ⟨j68, hx69, hd70⟩ := Option.bind_eq_some_iff.mp hd; clear hd; have hd := hd70; clear hd70
      refine mr_bald ok_Mo_does rfl hM65 (N := 400) (by decide) (Or.inl rfl) hx69 (pc' := 144) rfl (Nat.le_of_ble_eq_true rfl) (Nat.le_of_ble_eq_true rfl) ?_
      show am_S _ _ _ _ _ _ _ (144, [some (.ref 22), some (.int q1), some (.int q12), none, none], [.int (s.2.2.1 24 j68), .int (s.1 15), .ref 28], h64, 0, 0) _
      refine am_steps ok_Mo_does 2 (x' := (if ¬ ((s.2.2.1 24 j68) : Int32) = 67 then 153 else 149, [some (.ref 22), some (.int q1), some (.int q12), none, none], [.int (s.1 15), .ref 28], h64, 0, 0)) rfl (Nat.le_of_ble_eq_true rfl) (Nat.le_of_ble_eq_true rfl) ?_
      obtain ⟨u71, hA73, hB74⟩ := Option.bind_eq_some_iff.mp hd; clear hd
      have K72 : am_S am_Pr none 3 72 0 0 78 (154, [some (.ref 22), none, none, none, none], [.int u71, .int (s.1 15), .ref 28], h64, 0, 0) (mQv q h0) := by
        have hd := hB74
        refine mr_bast ok_Mo_does rfl hM65 (N := 64) (by decide) (Or.inr rfl) hx62 (pc' := 155) rfl (Nat.le_of_ble_eq_true rfl) (Nat.le_of_ble_eq_true rfl) (fun h75 hM76 g78 => ?_)
        have f77 := mF.tr f66 g78
        refine am_steps ok_Mo_does 1 (x' := (156, [some (.ref 22), none, none, none, none], [.ref 22], h75, 0, 0)) rfl (Nat.le_of_ble_eq_true rfl) (Nat.le_of_ble_eq_true rfl) ?_
        refine mr_get ok_Mo_does rfl hM76 (v := .ref 29) rfl (pc' := 159) rfl (Nat.le_of_ble_eq_true rfl) (Nat.le_of_ble_eq_true rfl) ?_
        refine am_steps ok_Mo_does 1 (x' := (160, [some (.ref 22), none, none, none, none], [.ref 22, .ref 29], h75, 0, 0)) rfl (Nat.le_of_ble_eq_true rfl) (Nat.le_of_ble_eq_true rfl) ?_
        refine mr_get ok_Mo_does rfl hM76 (v := .int (s.1 15)) rfl (pc' := 163) rfl (Nat.le_of_ble_eq_true rfl) (Nat.le_of_ble_eq_true rfl) ?_
        refine am_steps ok_Mo_does 3 (x' := (168, [some (.ref 22), none, none, none, none], [.int 15, .int 19, .ref 22, .int (s.1 15), .ref 29], h75, 0, 0)) rfl (Nat.le_of_ble_eq_true rfl) (Nat.le_of_ble_eq_true rfl) ?_
        obtain ⟨q79, hq80, hd81⟩ := Option.bind_eq_some_iff.mp hd; clear hd; have hd := hd81; clear hd81
        refine ar_cv ok_Mo_does hk_Mo_number rfl rfl (As := [.int 19, .int 15]) (ad := 22) (rest := [.int (s.1 15), .ref 29]) rfl rfl hM76.1 (Nat.le_of_ble_eq_true rfl) (k_Mo_number 19 15 (mA (mB s 27 j61 q50) 28 j61 (am_bn 3 u71)) h75 hM76 q79 hq80) (Nat.le_of_ble_eq_true rfl) (Nat.le_of_ble_eq_true rfl) (Nat.le_of_ble_eq_true rfl) (Nat.le_of_ble_eq_true rfl) (pc' := 171) rfl (fun r82 h84 z83 => ?_)
        obtain ⟨z88, z89⟩ := z83; subst z88; rw [z89]
        show am_S _ _ _ _ _ _ _ (171, [some (.ref 22), none, none, none, none], [.long q79, .int (s.1 15), .ref 29], h75, 0, 0) _
        refine mr_last ok_Mo_does rfl hM76 (N := 64) (by decide) hx62 (pc' := 172) rfl (Nat.le_of_ble_eq_true rfl) (Nat.le_of_ble_eq_true rfl) (fun h90 hM91 g93 => ?_)
        have f92 := mF.tr f77 g93
        refine am_steps ok_Mo_does 1 (x' := (173, [some (.ref 22), none, none, none, none], [.ref 22], h90, 0, 0)) rfl (Nat.le_of_ble_eq_true rfl) (Nat.le_of_ble_eq_true rfl) ?_
        refine mr_get ok_Mo_does rfl hM91 (v := .ref 30) rfl (pc' := 176) rfl (Nat.le_of_ble_eq_true rfl) (Nat.le_of_ble_eq_true rfl) ?_
        refine am_steps ok_Mo_does 1 (x' := (177, [some (.ref 22), none, none, none, none], [.ref 22, .ref 30], h90, 0, 0)) rfl (Nat.le_of_ble_eq_true rfl) (Nat.le_of_ble_eq_true rfl) ?_
        refine mr_get ok_Mo_does rfl hM91 (v := .int (s.1 15)) rfl (pc' := 180) rfl (Nat.le_of_ble_eq_true rfl) (Nat.le_of_ble_eq_true rfl) ?_
        refine am_steps ok_Mo_does 3 (x' := (184, [some (.ref 22), none, none, none, none], [.int 2, .int 34, .ref 22, .int (s.1 15), .ref 30], h90, 0, 0)) rfl (Nat.le_of_ble_eq_true rfl) (Nat.le_of_ble_eq_true rfl) ?_
        obtain ⟨q94, hq95, hd96⟩ := Option.bind_eq_some_iff.mp hd; clear hd; have hd := hd96; clear hd96
        refine ar_cv ok_Mo_does hk_Mo_number rfl rfl (As := [.int 34, .int 2]) (ad := 22) (rest := [.int (s.1 15), .ref 30]) rfl rfl hM91.1 (Nat.le_of_ble_eq_true rfl) (k_Mo_number 34 2 (mB (mA (mB s 27 j61 q50) 28 j61 (am_bn 3 u71)) 29 j61 q79) h90 hM91 q94 hq95) (Nat.le_of_ble_eq_true rfl) (Nat.le_of_ble_eq_true rfl) (Nat.le_of_ble_eq_true rfl) (Nat.le_of_ble_eq_true rfl) (pc' := 187) rfl (fun r97 h99 z98 => ?_)
        obtain ⟨z103, z104⟩ := z98; subst z103; rw [z104]
        show am_S _ _ _ _ _ _ _ (187, [some (.ref 22), none, none, none, none], [.long q94, .int (s.1 15), .ref 30], h90, 0, 0) _
        refine am_steps ok_Mo_does 1 (x' := (188, [some (.ref 22), none, none, none, none], [.int (Int64.toInt32 q94), .int (s.1 15), .ref 30], h90, 0, 0)) rfl (Nat.le_of_ble_eq_true rfl) (Nat.le_of_ble_eq_true rfl) ?_
        refine mr_iast ok_Mo_does rfl hM91 (N := 64) (by decide) hx62 (pc' := 189) rfl (Nat.le_of_ble_eq_true rfl) (Nat.le_of_ble_eq_true rfl) (fun h105 hM106 g108 => ?_)
        have f107 := mF.tr f92 g108
        refine am_steps ok_Mo_does 1 (x' := (190, [some (.ref 22), none, none, none, none], [.ref 22], h105, 0, 0)) rfl (Nat.le_of_ble_eq_true rfl) (Nat.le_of_ble_eq_true rfl) ?_
        refine mr_get ok_Mo_does rfl hM106 (v := .ref 28) rfl (pc' := 193) rfl (Nat.le_of_ble_eq_true rfl) (Nat.le_of_ble_eq_true rfl) ?_
        refine am_steps ok_Mo_does 1 (x' := (194, [some (.ref 22), none, none, none, none], [.ref 22, .ref 28], h105, 0, 0)) rfl (Nat.le_of_ble_eq_true rfl) (Nat.le_of_ble_eq_true rfl) ?_
        refine mr_get ok_Mo_does rfl hM106 (v := .int (s.1 15)) rfl (pc' := 197) rfl (Nat.le_of_ble_eq_true rfl) (Nat.le_of_ble_eq_true rfl) ?_
        refine mr_bald ok_Mo_does rfl hM106 (N := 64) (by decide) (Or.inr rfl) hx62 (pc' := 198) rfl (Nat.le_of_ble_eq_true rfl) (Nat.le_of_ble_eq_true rfl) ?_
        show am_S _ _ _ _ _ _ _ (198, [some (.ref 22), none, none, none, none], [.int ((mA (mB s 27 j61 q50) 28 j61 (am_bn 3 u71)).2.2.1 28 j61)], h105, 0, 0) _
        refine am_steps ok_Mo_does 1 (x' := (if (((mA (mB s 27 j61 q50) 28 j61 (am_bn 3 u71)).2.2.1 28 j61) : Int32) = 0 then 216 else 201, [some (.ref 22), none, none, none, none], [], h105, 0, 0)) rfl (Nat.le_of_ble_eq_true rfl) (Nat.le_of_ble_eq_true rfl) ?_
        obtain ⟨u109, hA111, hB112⟩ := Option.bind_eq_some_iff.mp hd; clear hd
        have K110 : ∀ h' : am_H, RM u109 h' → mF h0 h' → am_S am_Pr none 3 72 0 0 78 (216, [some (.ref 22), none, none, none, none], [], h', 0, 0) (mQv q h0) := by
          have hd := hB112
          intro h113 hM114 f115
          refine am_steps ok_Mo_does 2 (x' := (218, [some (.ref 22), none, none, none, none], [.ref 22, .ref 22], h113, 0, 0)) rfl (Nat.le_of_ble_eq_true rfl) (Nat.le_of_ble_eq_true rfl) ?_
          refine mr_get ok_Mo_does rfl hM114 (v := .int (u109.1 15)) rfl (pc' := 221) rfl (Nat.le_of_ble_eq_true rfl) (Nat.le_of_ble_eq_true rfl) ?_
          refine am_steps ok_Mo_does 2 (x' := (223, [some (.ref 22), none, none, none, none], [.int ((u109.1 15) + 1), .ref 22], h113, 0, 0)) rfl (Nat.le_of_ble_eq_true rfl) (Nat.le_of_ble_eq_true rfl) ?_
          refine mr_put ok_Mo_does rfl hM114 (by decide) rfl (s' := (mI u109 15 ((u109.1 15) + 1))) (mfs_15 _ _) rfl (pc' := 226) rfl (Nat.le_of_ble_eq_true rfl) (Nat.le_of_ble_eq_true rfl) (fun h116 hM117 g119 => ?_)
          have f118 := mF.tr f115 g119
          refine am_steps ok_Mo_does 1 (x' := (535, [some (.ref 22), none, none, none, none], [], h116, 0, 0)) rfl (Nat.le_of_ble_eq_true rfl) (Nat.le_of_ble_eq_true rfl) ?_
          cases hd; exact am_ret ok_Mo_does rfl (Nat.le_of_ble_eq_true rfl) (Nat.le_of_ble_eq_true rfl) ⟨rfl, hM117, f118⟩
        clear hB112; have hd := hA111; clear hA111
        refine am_if (fun hc120 => ?_) (fun hc120 => ?_)
        · rw [if_pos hc120] at hd
          cases hd; exact K110 h105 hM106 f107
        · rw [if_neg hc120] at hd
          refine am_steps ok_Mo_does 1 (x' := (202, [some (.ref 22), none, none, none, none], [.ref 22], h105, 0, 0)) rfl (Nat.le_of_ble_eq_true rfl) (Nat.le_of_ble_eq_true rfl) ?_
          refine mr_get ok_Mo_does rfl hM106 (v := .int (s.1 16)) rfl (pc' := 205) rfl (Nat.le_of_ble_eq_true rfl) (Nat.le_of_ble_eq_true rfl) ?_
          refine am_steps ok_Mo_does 1 (x' := (if (0 : Int32) ≤ (s.1 16) then 216 else 208, [some (.ref 22), none, none, none, none], [], h105, 0, 0)) rfl (Nat.le_of_ble_eq_true rfl) (Nat.le_of_ble_eq_true rfl) ?_
          refine am_if (fun hc121 => ?_) (fun hc121 => ?_)
          · rw [if_pos hc121] at hd
            cases hd; exact K110 h105 hM106 f107
          · rw [if_neg hc121] at hd
            refine am_steps ok_Mo_does 2 (x' := (210, [some (.ref 22), none, none, none, none], [.ref 22, .ref 22], h105, 0, 0)) rfl (Nat.le_of_ble_eq_true rfl) (Nat.le_of_ble_eq_true rfl) ?_
            refine mr_get ok_Mo_does rfl hM106 (v := .int (s.1 15)) rfl (pc' := 213) rfl (Nat.le_of_ble_eq_true rfl) (Nat.le_of_ble_eq_true rfl) ?_
            refine mr_put ok_Mo_does rfl hM106 (by decide) rfl (s' := (mI (mA (mB (mA (mB s 27 j61 q50) 28 j61 (am_bn 3 u71)) 29 j61 q79) 30 j61 (Int64.toInt32 q94)) 16 (s.1 15))) (mfs_16 _ _) rfl (pc' := 216) rfl (Nat.le_of_ble_eq_true rfl) (Nat.le_of_ble_eq_true rfl) (fun h122 hM123 g125 => ?_)
            have f124 := mF.tr f107 g125
            cases hd; exact K110 h122 hM123 f124
      clear hB74; have hd := hA73; clear hA73
      refine am_if (fun hc126 => ?_) (fun hc126 => ?_)
      · rw [if_pos hc126] at hd
        refine am_steps ok_Mo_does 1 (x' := (154, [some (.ref 22), some (.int q1), some (.int q12), none, none], [.int 0, .int (s.1 15), .ref 28], h64, 0, 0)) rfl (Nat.le_of_ble_eq_true rfl) (Nat.le_of_ble_eq_true rfl) ?_
        refine am_drop 1 ?_
        refine am_drop 2 ?_
        cases hd; exact K72 
      · rw [if_neg hc126] at hd
        refine am_steps ok_Mo_does 2 (x' := (154, [some (.ref 22), some (.int q1), some (.int q12), none, none], [.int 1, .int (s.1 15), .ref 28], h64, 0, 0)) rfl (Nat.le_of_ble_eq_true rfl) (Nat.le_of_ble_eq_true rfl) ?_
        refine am_drop 1 ?_
        refine am_drop 2 ?_
        cases hd; exact K72 
    exact ar_tswk ok_Mo_does rfl hc48 (by decide +kernel) rfl rfl (Nat.le_of_ble_eq_true rfl) (Nat.le_of_ble_eq_true rfl) KT49
  rw [if_neg hc48] at hd
  by_cases hc128 : (s.1 4) = 2
  · rw [if_pos hc128] at hd
    have KT129 : am_S am_Pr none 3 72 0 0 78 (229, [some (.ref 22), some (.int q1), some (.int q12), none, none], [], h0, 0, 0) (mQv q h0) := by
      refine am_steps ok_Mo_does 1 (x' := (230, [some (.ref 22), some (.int q1), some (.int q12), none, none], [.ref 22], h0, 0, 0)) rfl (Nat.le_of_ble_eq_true rfl) (Nat.le_of_ble_eq_true rfl) ?_
      refine mr_get ok_Mo_does rfl hM (v := .ref 29) rfl (pc' := 233) rfl (Nat.le_of_ble_eq_true rfl) (Nat.le_of_ble_eq_true rfl) ?_
      refine am_steps ok_Mo_does 4 (x' := (239, [some (.ref 22), some (.int q1), some (.int q12), none, none], [.int 15, .int 18, .ref 22, .int q1, .ref 29], h0, 0, 0)) rfl (Nat.le_of_ble_eq_true rfl) (Nat.le_of_ble_eq_true rfl) ?_
      obtain ⟨q130, hq131, hd132⟩ := Option.bind_eq_some_iff.mp hd; clear hd; have hd := hd132; clear hd132
      refine ar_cv ok_Mo_does hk_Mo_number rfl rfl (As := [.int 18, .int 15]) (ad := 22) (rest := [.int q1, .ref 29]) rfl rfl hM.1 (Nat.le_of_ble_eq_true rfl) (k_Mo_number 18 15 s h0 hM q130 hq131) (Nat.le_of_ble_eq_true rfl) (Nat.le_of_ble_eq_true rfl) (Nat.le_of_ble_eq_true rfl) (Nat.le_of_ble_eq_true rfl) (pc' := 242) rfl (fun r133 h135 z134 => ?_)
      obtain ⟨z139, z140⟩ := z134; subst z139; rw [z140]
      show am_S _ _ _ _ _ _ _ (242, [some (.ref 22), some (.int q1), some (.int q12), none, none], [.long q130, .int q1, .ref 29], h0, 0, 0) _
      obtain ⟨j141, hx142, hd143⟩ := Option.bind_eq_some_iff.mp hd; clear hd; have hd := hd143; clear hd143
      refine mr_last ok_Mo_does rfl hM (N := 64) (by decide) hx142 (pc' := 243) rfl (Nat.le_of_ble_eq_true rfl) (Nat.le_of_ble_eq_true rfl) (fun h144 hM145 g147 => ?_)
      have f146 := mF.tr (mF.rf) g147
      refine am_steps ok_Mo_does 1 (x' := (244, [some (.ref 22), some (.int q1), some (.int q12), none, none], [.ref 22], h144, 0, 0)) rfl (Nat.le_of_ble_eq_true rfl) (Nat.le_of_ble_eq_true rfl) ?_
      refine mr_get ok_Mo_does rfl hM145 (v := .ref 30) rfl (pc' := 247) rfl (Nat.le_of_ble_eq_true rfl) (Nat.le_of_ble_eq_true rfl) ?_
      refine am_steps ok_Mo_does 4 (x' := (252, [some (.ref 22), some (.int q1), some (.int q12), none, none], [.int 2, .int 33, .ref 22, .int q1, .ref 30], h144, 0, 0)) rfl (Nat.le_of_ble_eq_true rfl) (Nat.le_of_ble_eq_true rfl) ?_
      obtain ⟨q148, hq149, hd150⟩ := Option.bind_eq_some_iff.mp hd; clear hd; have hd := hd150; clear hd150
      refine ar_cv ok_Mo_does hk_Mo_number rfl rfl (As := [.int 33, .int 2]) (ad := 22) (rest := [.int q1, .ref 30]) rfl rfl hM145.1 (Nat.le_of_ble_eq_true rfl) (k_Mo_number 33 2 (mB s 29 j141 q130) h144 hM145 q148 hq149) (Nat.le_of_ble_eq_true rfl) (Nat.le_of_ble_eq_true rfl) (Nat.le_of_ble_eq_true rfl) (Nat.le_of_ble_eq_true rfl) (pc' := 255) rfl (fun r151 h153 z152 => ?_)
      obtain ⟨z157, z158⟩ := z152; subst z157; rw [z158]
      show am_S _ _ _ _ _ _ _ (255, [some (.ref 22), some (.int q1), some (.int q12), none, none], [.long q148, .int q1, .ref 30], h144, 0, 0) _
      refine am_steps ok_Mo_does 1 (x' := (256, [some (.ref 22), some (.int q1), some (.int q12), none, none], [.int (Int64.toInt32 q148), .int q1, .ref 30], h144, 0, 0)) rfl (Nat.le_of_ble_eq_true rfl) (Nat.le_of_ble_eq_true rfl) ?_
      refine mr_iast ok_Mo_does rfl hM145 (N := 64) (by decide) hx142 (pc' := 257) rfl (Nat.le_of_ble_eq_true rfl) (Nat.le_of_ble_eq_true rfl) (fun h159 hM160 g162 => ?_)
      have f161 := mF.tr f146 g162
      refine am_steps ok_Mo_does 1 (x' := (535, [some (.ref 22), some (.int q1), some (.int q12), none, none], [], h159, 0, 0)) rfl (Nat.le_of_ble_eq_true rfl) (Nat.le_of_ble_eq_true rfl) ?_
      cases hd; exact am_ret ok_Mo_does rfl (Nat.le_of_ble_eq_true rfl) (Nat.le_of_ble_eq_true rfl) ⟨rfl, hM160, f161⟩
    exact ar_tswk ok_Mo_does rfl hc128 (by decide +kernel) rfl rfl (Nat.le_of_ble_eq_true rfl) (Nat.le_of_ble_eq_true rfl) KT129
  rw [if_neg hc128] at hd
  by_cases hc164 : (s.1 4) = 3 ∨ (s.1 4) = 4
  · rw [if_pos hc164] at hd
    have KT165 : am_S am_Pr none 3 72 0 0 78 (260, [some (.ref 22), some (.int q1), some (.int q12), none, none], [], h0, 0, 0) (mQv q h0) := by
      refine am_steps ok_Mo_does 1 (x' := (261, [some (.ref 22), some (.int q1), some (.int q12), none, none], [.ref 22], h0, 0, 0)) rfl (Nat.le_of_ble_eq_true rfl) (Nat.le_of_ble_eq_true rfl) ?_
      refine mr_get ok_Mo_does rfl hM (v := .int (s.1 4)) rfl (pc' := 264) rfl (Nat.le_of_ble_eq_true rfl) (Nat.le_of_ble_eq_true rfl) ?_
      refine am_steps ok_Mo_does 2 (x' := (if ¬ ((s.1 4) : Int32) = 3 then 279 else 268, [some (.ref 22), some (.int q1), some (.int q12), none, none], [], h0, 0, 0)) rfl (Nat.le_of_ble_eq_true rfl) (Nat.le_of_ble_eq_true rfl) ?_
      obtain ⟨u166, hA168, hB169⟩ := Option.bind_eq_some_iff.mp hd; clear hd
      have K167 : am_S am_Pr none 3 72 0 0 78 (288, [some (.ref 22), some (.int q1), none, none, none], [.long u166], h0, 0, 0) (mQv q h0) := by
        have hd := hB169
        refine am_steps ok_Mo_does 5 (x' := (293, [some (.ref 22), some (.int q1), none, some (.long u166), none], [.long (-u166), .int q1, .ref 22], h0, 0, 0)) rfl (Nat.le_of_ble_eq_true rfl) (Nat.le_of_ble_eq_true rfl) ?_
        obtain ⟨q170, hq171, hd172⟩ := Option.bind_eq_some_iff.mp hd; clear hd; have hd := hd172; clear hd172
        refine ar_cv ok_Mo_does hk_Mo_move rfl rfl (As := [.int q1, .long (-u166)]) (ad := 22) (rest := []) rfl rfl hM.1 (Nat.le_of_ble_eq_true rfl) (k_Mo_move q1 (-u166) s h0 hM q170 hq171) (Nat.le_of_ble_eq_true rfl) (Nat.le_of_ble_eq_true rfl) (Nat.le_of_ble_eq_true rfl) (Nat.le_of_ble_eq_true rfl) (pc' := 296) rfl (fun r173 h175 z174 => ?_)
        obtain ⟨rfl, hM176, g178⟩ := z174
        have f177 := mF.tr (mF.rf) g178
        show am_S _ _ _ _ _ _ _ (296, [some (.ref 22), some (.int q1), none, some (.long u166), none], [], h175, 0, 0) _
        refine am_steps ok_Mo_does 4 (x' := (302, [some (.ref 22), some (.int q1), none, some (.long u166), none], [.int 18, .ref 22, .int 64, .ref 22], h175, 0, 0)) rfl (Nat.le_of_ble_eq_true rfl) (Nat.le_of_ble_eq_true rfl) ?_
        obtain ⟨q179, hq180, hd181⟩ := Option.bind_eq_some_iff.mp hd; clear hd; have hd := hd181; clear hd181
        refine ar_cv ok_Mo_does hk_Mo_memberAt rfl rfl (As := [.int 18]) (ad := 22) (rest := [.int 64, .ref 22]) rfl rfl hM176.1 (Nat.le_of_ble_eq_true rfl) (k_Mo_memberAt 18 q170 h175 hM176 q179 hq180) (Nat.le_of_ble_eq_true rfl) (Nat.le_of_ble_eq_true rfl) (Nat.le_of_ble_eq_true rfl) (Nat.le_of_ble_eq_true rfl) (pc' := 305) rfl (fun r182 h184 z183 => ?_)
        obtain ⟨z188, z189⟩ := z183; subst z188; rw [z189]
        show am_S _ _ _ _ _ _ _ (305, [some (.ref 22), some (.int q1), none, some (.long u166), none], [.int q179, .int 64, .ref 22], h175, 0, 0) _
        refine am_steps ok_Mo_does 4 (x' := (309, [some (.ref 22), some (.int q1), none, some (.long u166), none], [.long u166, .int ((64 * q179) + q1), .ref 22], h175, 0, 0)) rfl (Nat.le_of_ble_eq_true rfl) (Nat.le_of_ble_eq_true rfl) ?_
        obtain ⟨q190, hq191, hd192⟩ := Option.bind_eq_some_iff.mp hd; clear hd; have hd := hd192; clear hd192
        refine ar_cv ok_Mo_does hk_Mo_move rfl rfl (As := [.int ((64 * q179) + q1), .long u166]) (ad := 22) (rest := []) rfl rfl hM176.1 (Nat.le_of_ble_eq_true rfl) (k_Mo_move ((64 * q179) + q1) u166 q170 h175 hM176 q190 hq191) (Nat.le_of_ble_eq_true rfl) (Nat.le_of_ble_eq_true rfl) (Nat.le_of_ble_eq_true rfl) (Nat.le_of_ble_eq_true rfl) (pc' := 312) rfl (fun r193 h195 z194 => ?_)
        obtain ⟨rfl, hM196, g198⟩ := z194
        have f197 := mF.tr f177 g198
        show am_S _ _ _ _ _ _ _ (312, [some (.ref 22), some (.int q1), none, some (.long u166), none], [], h195, 0, 0) _
        refine am_steps ok_Mo_does 1 (x' := (535, [some (.ref 22), some (.int q1), none, some (.long u166), none], [], h195, 0, 0)) rfl (Nat.le_of_ble_eq_true rfl) (Nat.le_of_ble_eq_true rfl) ?_
        cases hd; exact am_ret ok_Mo_does rfl (Nat.le_of_ble_eq_true rfl) (Nat.le_of_ble_eq_true rfl) ⟨rfl, hM196, f197⟩
      clear hB169; have hd := hA168; clear hA168
      refine am_if (fun hc199 => ?_) (fun hc199 => ?_)
      · rw [if_pos hc199] at hd
        refine am_steps ok_Mo_does 3 (x' := (284, [some (.ref 22), some (.int q1), some (.int q12), none, none], [.int 15, .int 22, .ref 22], h0, 0, 0)) rfl (Nat.le_of_ble_eq_true rfl) (Nat.le_of_ble_eq_true rfl) ?_
        obtain ⟨q200, hq201, hd202⟩ := Option.bind_eq_some_iff.mp hd; clear hd; have hd := hd202; clear hd202
        refine ar_cv ok_Mo_does hk_Mo_number rfl rfl (As := [.int 22, .int 15]) (ad := 22) (rest := []) rfl rfl hM.1 (Nat.le_of_ble_eq_true rfl) (k_Mo_number 22 15 s h0 hM q200 hq201) (Nat.le_of_ble_eq_true rfl) (Nat.le_of_ble_eq_true rfl) (Nat.le_of_ble_eq_true rfl) (Nat.le_of_ble_eq_true rfl) (pc' := 287) rfl (fun r203 h205 z204 => ?_)
        obtain ⟨z209, z210⟩ := z204; subst z209; rw [z210]
        show am_S _ _ _ _ _ _ _ (287, [some (.ref 22), some (.int q1), some (.int q12), none, none], [.long q200], h0, 0, 0) _
        refine am_steps ok_Mo_does 1 (x' := (288, [some (.ref 22), some (.int q1), some (.int q12), none, none], [.long (-q200)], h0, 0, 0)) rfl (Nat.le_of_ble_eq_true rfl) (Nat.le_of_ble_eq_true rfl) ?_
        refine am_drop 2 ?_
        cases hd; exact K167 
      · rw [if_neg hc199] at hd
        refine am_steps ok_Mo_does 3 (x' := (273, [some (.ref 22), some (.int q1), some (.int q12), none, none], [.int 15, .int 22, .ref 22], h0, 0, 0)) rfl (Nat.le_of_ble_eq_true rfl) (Nat.le_of_ble_eq_true rfl) ?_
        obtain ⟨q211, hq212, hd213⟩ := Option.bind_eq_some_iff.mp hd; clear hd; have hd := hd213; clear hd213
        refine ar_cv ok_Mo_does hk_Mo_number rfl rfl (As := [.int 22, .int 15]) (ad := 22) (rest := []) rfl rfl hM.1 (Nat.le_of_ble_eq_true rfl) (k_Mo_number 22 15 s h0 hM q211 hq212) (Nat.le_of_ble_eq_true rfl) (Nat.le_of_ble_eq_true rfl) (Nat.le_of_ble_eq_true rfl) (Nat.le_of_ble_eq_true rfl) (pc' := 276) rfl (fun r214 h216 z215 => ?_)
        obtain ⟨z220, z221⟩ := z215; subst z220; rw [z221]
        show am_S _ _ _ _ _ _ _ (276, [some (.ref 22), some (.int q1), some (.int q12), none, none], [.long q211], h0, 0, 0) _
        refine am_steps ok_Mo_does 1 (x' := (288, [some (.ref 22), some (.int q1), some (.int q12), none, none], [.long q211], h0, 0, 0)) rfl (Nat.le_of_ble_eq_true rfl) (Nat.le_of_ble_eq_true rfl) ?_
        refine am_drop 2 ?_
        cases hd; exact K167 
    rcases hc164 with hv222 | hv222
    · exact ar_tswk ok_Mo_does rfl hv222 (by decide +kernel) rfl rfl (Nat.le_of_ble_eq_true rfl) (Nat.le_of_ble_eq_true rfl) KT165
    · exact ar_tswk ok_Mo_does rfl hv222 (by decide +kernel) rfl rfl (Nat.le_of_ble_eq_true rfl) (Nat.le_of_ble_eq_true rfl) KT165
  rw [if_neg hc164] at hd
  by_cases hc223 : (s.1 4) = 5
  · rw [if_pos hc223] at hd
    have KT224 : am_S am_Pr none 3 72 0 0 78 (315, [some (.ref 22), some (.int q1), some (.int q12), none, none], [], h0, 0, 0) (mQv q h0) := by
      refine am_steps ok_Mo_does 1 (x' := (316, [some (.ref 22), some (.int q1), some (.int q12), none, none], [.ref 22], h0, 0, 0)) rfl (Nat.le_of_ble_eq_true rfl) (Nat.le_of_ble_eq_true rfl) ?_
      obtain ⟨q225, hq226, hd227⟩ := Option.bind_eq_some_iff.mp hd; clear hd; have hd := hd227; clear hd227
      refine ar_cv ok_Mo_does hk_Mo_comes rfl rfl (As := []) (ad := 22) (rest := []) rfl rfl hM.1 (Nat.le_of_ble_eq_true rfl) (k_Mo_comes  s h0 hM q225 hq226) (Nat.le_of_ble_eq_true rfl) (Nat.le_of_ble_eq_true rfl) (Nat.le_of_ble_eq_true rfl) (Nat.le_of_ble_eq_true rfl) (pc' := 319) rfl (fun r228 h230 z229 => ?_)
      obtain ⟨rfl, hM231, g233⟩ := z229
      have f232 := mF.tr (mF.rf) g233
      show am_S _ _ _ _ _ _ _ (319, [some (.ref 22), some (.int q1), some (.int q12), none, none], [], h230, 0, 0) _
      refine am_steps ok_Mo_does 1 (x' := (535, [some (.ref 22), some (.int q1), some (.int q12), none, none], [], h230, 0, 0)) rfl (Nat.le_of_ble_eq_true rfl) (Nat.le_of_ble_eq_true rfl) ?_
      cases hd; exact am_ret ok_Mo_does rfl (Nat.le_of_ble_eq_true rfl) (Nat.le_of_ble_eq_true rfl) ⟨rfl, hM231, f232⟩
    exact ar_tswk ok_Mo_does rfl hc223 (by decide +kernel) rfl rfl (Nat.le_of_ble_eq_true rfl) (Nat.le_of_ble_eq_true rfl) KT224
  rw [if_neg hc223] at hd
  by_cases hc235 : (s.1 4) = 6
  · rw [if_pos hc235] at hd
    have KT236 : am_S am_Pr none 3 72 0 0 78 (322, [some (.ref 22), some (.int q1), some (.int q12), none, none], [], h0, 0, 0) (mQv q h0) := by
      refine am_steps ok_Mo_does 6 (x' := (330, [some (.ref 22), some (.int q1), some (.int q12), none, none], [.int 8, .int 19, .ref 22, .int q12, .ref 22, .ref 22], h0, 0, 0)) rfl (Nat.le_of_ble_eq_true rfl) (Nat.le_of_ble_eq_true rfl) ?_
      obtain ⟨q237, hq238, hd239⟩ := Option.bind_eq_some_iff.mp hd; clear hd; have hd := hd239; clear hd239
      refine ar_cv ok_Mo_does hk_Mo_packed rfl rfl (As := [.int 19, .int 8]) (ad := 22) (rest := [.int q12, .ref 22, .ref 22]) rfl rfl hM.1 (Nat.le_of_ble_eq_true rfl) (k_Mo_packed 19 8 s h0 hM q237 hq238) (Nat.le_of_ble_eq_true rfl) (Nat.le_of_ble_eq_true rfl) (Nat.le_of_ble_eq_true rfl) (Nat.le_of_ble_eq_true rfl) (pc' := 333) rfl (fun r240 h242 z241 => ?_)
      obtain ⟨z246, z247⟩ := z241; subst z246; rw [z247]
      show am_S _ _ _ _ _ _ _ (333, [some (.ref 22), some (.int q1), some (.int q12), none, none], [.long q237, .int q12, .ref 22, .ref 22], h0, 0, 0) _
      obtain ⟨q248, hq249, hd250⟩ := Option.bind_eq_some_iff.mp hd; clear hd; have hd := hd250; clear hd250
      refine ar_cv ok_Mo_does hk_Mo_openOf rfl rfl (As := [.int q12, .long q237]) (ad := 22) (rest := [.ref 22]) rfl rfl hM.1 (Nat.le_of_ble_eq_true rfl) (k_Mo_openOf q12 q237 s h0 hM q248 hq249) (Nat.le_of_ble_eq_true rfl) (Nat.le_of_ble_eq_true rfl) (Nat.le_of_ble_eq_true rfl) (Nat.le_of_ble_eq_true rfl) (pc' := 336) rfl (fun r251 h253 z252 => ?_)
      obtain ⟨z257, z258⟩ := z252; subst z257; rw [z258]
      show am_S _ _ _ _ _ _ _ (336, [some (.ref 22), some (.int q1), some (.int q12), none, none], [.int q248, .ref 22], h0, 0, 0) _
      obtain ⟨q259, hq260, hd261⟩ := Option.bind_eq_some_iff.mp hd; clear hd; have hd := hd261; clear hd261
      refine ar_cv ok_Mo_does hk_Mo_agrees rfl rfl (As := [.int q248]) (ad := 22) (rest := []) rfl rfl hM.1 (Nat.le_of_ble_eq_true rfl) (k_Mo_agrees q248 s h0 hM q259 hq260) (Nat.le_of_ble_eq_true rfl) (Nat.le_of_ble_eq_true rfl) (Nat.le_of_ble_eq_true rfl) (Nat.le_of_ble_eq_true rfl) (pc' := 339) rfl (fun r262 h264 z263 => ?_)
      obtain ⟨rfl, hM265, g267⟩ := z263
      have f266 := mF.tr (mF.rf) g267
      show am_S _ _ _ _ _ _ _ (339, [some (.ref 22), some (.int q1), some (.int q12), none, none], [], h264, 0, 0) _
      refine am_steps ok_Mo_does 1 (x' := (535, [some (.ref 22), some (.int q1), some (.int q12), none, none], [], h264, 0, 0)) rfl (Nat.le_of_ble_eq_true rfl) (Nat.le_of_ble_eq_true rfl) ?_
      cases hd; exact am_ret ok_Mo_does rfl (Nat.le_of_ble_eq_true rfl) (Nat.le_of_ble_eq_true rfl) ⟨rfl, hM265, f266⟩
    exact ar_tswk ok_Mo_does rfl hc235 (by decide +kernel) rfl rfl (Nat.le_of_ble_eq_true rfl) (Nat.le_of_ble_eq_true rfl) KT236
  rw [if_neg hc235] at hd
  by_cases hc269 : (s.1 4) = 7
  · rw [if_pos hc269] at hd
    have KT270 : am_S am_Pr none 3 72 0 0 78 (342, [some (.ref 22), some (.int q1), some (.int q12), none, none], [], h0, 0, 0) (mQv q h0) := by
      refine am_steps ok_Mo_does 3 (x' := (345, [some (.ref 22), some (.int q1), some (.int q12), none, none], [.ref 22, .ref 22, .ref 22], h0, 0, 0)) rfl (Nat.le_of_ble_eq_true rfl) (Nat.le_of_ble_eq_true rfl) ?_
      refine mr_get ok_Mo_does rfl hM (v := .int (s.1 5)) rfl (pc' := 348) rfl (Nat.le_of_ble_eq_true rfl) (Nat.le_of_ble_eq_true rfl) ?_
      refine am_steps ok_Mo_does 3 (x' := (353, [some (.ref 22), some (.int q1), some (.int q12), none, none], [.int 8, .int 15, .ref 22, .int (s.1 5), .ref 22, .ref 22], h0, 0, 0)) rfl (Nat.le_of_ble_eq_true rfl) (Nat.le_of_ble_eq_true rfl) ?_
      obtain ⟨q271, hq272, hd273⟩ := Option.bind_eq_some_iff.mp hd; clear hd; have hd := hd273; clear hd273
      refine ar_cv ok_Mo_does hk_Mo_packed rfl rfl (As := [.int 15, .int 8]) (ad := 22) (rest := [.int (s.1 5), .ref 22, .ref 22]) rfl rfl hM.1 (Nat.le_of_ble_eq_true rfl) (k_Mo_packed 15 8 s h0 hM q271 hq272) (Nat.le_of_ble_eq_true rfl) (Nat.le_of_ble_eq_true rfl) (Nat.le_of_ble_eq_true rfl) (Nat.le_of_ble_eq_true rfl) (pc' := 356) rfl (fun r274 h276 z275 => ?_)
      obtain ⟨z280, z281⟩ := z275; subst z280; rw [z281]
      show am_S _ _ _ _ _ _ _ (356, [some (.ref 22), some (.int q1), some (.int q12), none, none], [.long q271, .int (s.1 5), .ref 22, .ref 22], h0, 0, 0) _
      obtain ⟨q282, hq283, hd284⟩ := Option.bind_eq_some_iff.mp hd; clear hd; have hd := hd284; clear hd284
      refine ar_cv ok_Mo_does hk_Mo_openOf rfl rfl (As := [.int (s.1 5), .long q271]) (ad := 22) (rest := [.ref 22]) rfl rfl hM.1 (Nat.le_of_ble_eq_true rfl) (k_Mo_openOf (s.1 5) q271 s h0 hM q282 hq283) (Nat.le_of_ble_eq_true rfl) (Nat.le_of_ble_eq_true rfl) (Nat.le_of_ble_eq_true rfl) (Nat.le_of_ble_eq_true rfl) (pc' := 359) rfl (fun r285 h287 z286 => ?_)
      obtain ⟨z291, z292⟩ := z286; subst z291; rw [z292]
      show am_S _ _ _ _ _ _ _ (359, [some (.ref 22), some (.int q1), some (.int q12), none, none], [.int q282, .ref 22], h0, 0, 0) _
      obtain ⟨q293, hq294, hd295⟩ := Option.bind_eq_some_iff.mp hd; clear hd; have hd := hd295; clear hd295
      refine ar_cv ok_Mo_does hk_Mo_drop rfl rfl (As := [.int q282]) (ad := 22) (rest := []) rfl rfl hM.1 (Nat.le_of_ble_eq_true rfl) (k_Mo_drop q282 s h0 hM q293 hq294) (Nat.le_of_ble_eq_true rfl) (Nat.le_of_ble_eq_true rfl) (Nat.le_of_ble_eq_true rfl) (Nat.le_of_ble_eq_true rfl) (pc' := 362) rfl (fun r296 h298 z297 => ?_)
      obtain ⟨rfl, hM299, g301⟩ := z297
      have f300 := mF.tr (mF.rf) g301
      show am_S _ _ _ _ _ _ _ (362, [some (.ref 22), some (.int q1), some (.int q12), none, none], [], h298, 0, 0) _
      refine am_steps ok_Mo_does 1 (x' := (535, [some (.ref 22), some (.int q1), some (.int q12), none, none], [], h298, 0, 0)) rfl (Nat.le_of_ble_eq_true rfl) (Nat.le_of_ble_eq_true rfl) ?_
      cases hd; exact am_ret ok_Mo_does rfl (Nat.le_of_ble_eq_true rfl) (Nat.le_of_ble_eq_true rfl) ⟨rfl, hM299, f300⟩
    exact ar_tswk ok_Mo_does rfl hc269 (by decide +kernel) rfl rfl (Nat.le_of_ble_eq_true rfl) (Nat.le_of_ble_eq_true rfl) KT270
  rw [if_neg hc269] at hd
  by_cases hc303 : (s.1 4) = 8
  · rw [if_pos hc303] at hd
    have KT304 : am_S am_Pr none 3 72 0 0 78 (365, [some (.ref 22), some (.int q1), some (.int q12), none, none], [], h0, 0, 0) (mQv q h0) := by
      refine am_steps ok_Mo_does 3 (x' := (368, [some (.ref 22), some (.int q1), some (.int q12), none, none], [.ref 22, .ref 22, .ref 22], h0, 0, 0)) rfl (Nat.le_of_ble_eq_true rfl) (Nat.le_of_ble_eq_true rfl) ?_
      refine mr_get ok_Mo_does rfl hM (v := .int (s.1 5)) rfl (pc' := 371) rfl (Nat.le_of_ble_eq_true rfl) (Nat.le_of_ble_eq_true rfl) ?_
      refine am_steps ok_Mo_does 3 (x' := (376, [some (.ref 22), some (.int q1), some (.int q12), none, none], [.int 8, .int 15, .ref 22, .int (s.1 5), .ref 22, .ref 22], h0, 0, 0)) rfl (Nat.le_of_ble_eq_true rfl) (Nat.le_of_ble_eq_true rfl) ?_
      obtain ⟨q305, hq306, hd307⟩ := Option.bind_eq_some_iff.mp hd; clear hd; have hd := hd307; clear hd307
      refine ar_cv ok_Mo_does hk_Mo_packed rfl rfl (As := [.int 15, .int 8]) (ad := 22) (rest := [.int (s.1 5), .ref 22, .ref 22]) rfl rfl hM.1 (Nat.le_of_ble_eq_true rfl) (k_Mo_packed 15 8 s h0 hM q305 hq306) (Nat.le_of_ble_eq_true rfl) (Nat.le_of_ble_eq_true rfl) (Nat.le_of_ble_eq_true rfl) (Nat.le_of_ble_eq_true rfl) (pc' := 379) rfl (fun r308 h310 z309 => ?_)
      obtain ⟨z314, z315⟩ := z309; subst z314; rw [z315]
      show am_S _ _ _ _ _ _ _ (379, [some (.ref 22), some (.int q1), some (.int q12), none, none], [.long q305, .int (s.1 5), .ref 22, .ref 22], h0, 0, 0) _
      obtain ⟨q316, hq317, hd318⟩ := Option.bind_eq_some_iff.mp hd; clear hd; have hd := hd318; clear hd318
      refine ar_cv ok_Mo_does hk_Mo_openOf rfl rfl (As := [.int (s.1 5), .long q305]) (ad := 22) (rest := [.ref 22]) rfl rfl hM.1 (Nat.le_of_ble_eq_true rfl) (k_Mo_openOf (s.1 5) q305 s h0 hM q316 hq317) (Nat.le_of_ble_eq_true rfl) (Nat.le_of_ble_eq_true rfl) (Nat.le_of_ble_eq_true rfl) (Nat.le_of_ble_eq_true rfl) (pc' := 382) rfl (fun r319 h321 z320 => ?_)
      obtain ⟨z325, z326⟩ := z320; subst z325; rw [z326]
      show am_S _ _ _ _ _ _ _ (382, [some (.ref 22), some (.int q1), some (.int q12), none, none], [.int q316, .ref 22], h0, 0, 0) _
      obtain ⟨q327, hq328, hd329⟩ := Option.bind_eq_some_iff.mp hd; clear hd; have hd := hd329; clear hd329
      refine ar_cv ok_Mo_does hk_Mo_changes rfl rfl (As := [.int q316]) (ad := 22) (rest := []) rfl rfl hM.1 (Nat.le_of_ble_eq_true rfl) (k_Mo_changes q316 s h0 hM q327 hq328) (Nat.le_of_ble_eq_true rfl) (Nat.le_of_ble_eq_true rfl) (Nat.le_of_ble_eq_true rfl) (Nat.le_of_ble_eq_true rfl) (pc' := 385) rfl (fun r330 h332 z331 => ?_)
      obtain ⟨rfl, hM333, g335⟩ := z331
      have f334 := mF.tr (mF.rf) g335
      show am_S _ _ _ _ _ _ _ (385, [some (.ref 22), some (.int q1), some (.int q12), none, none], [], h332, 0, 0) _
      refine am_steps ok_Mo_does 1 (x' := (535, [some (.ref 22), some (.int q1), some (.int q12), none, none], [], h332, 0, 0)) rfl (Nat.le_of_ble_eq_true rfl) (Nat.le_of_ble_eq_true rfl) ?_
      cases hd; exact am_ret ok_Mo_does rfl (Nat.le_of_ble_eq_true rfl) (Nat.le_of_ble_eq_true rfl) ⟨rfl, hM333, f334⟩
    exact ar_tswk ok_Mo_does rfl hc303 (by decide +kernel) rfl rfl (Nat.le_of_ble_eq_true rfl) (Nat.le_of_ble_eq_true rfl) KT304
  rw [if_neg hc303] at hd
  by_cases hc337 : (s.1 4) = 9
  · rw [if_pos hc337] at hd
    have KT338 : am_S am_Pr none 3 72 0 0 78 (388, [some (.ref 22), some (.int q1), some (.int q12), none, none], [], h0, 0, 0) (mQv q h0) := by
      refine am_steps ok_Mo_does 2 (x' := (390, [some (.ref 22), some (.int q1), some (.int q12), none, none], [.ref 22, .ref 22], h0, 0, 0)) rfl (Nat.le_of_ble_eq_true rfl) (Nat.le_of_ble_eq_true rfl) ?_
      refine mr_get ok_Mo_does rfl hM (v := .int (s.1 25)) rfl (pc' := 393) rfl (Nat.le_of_ble_eq_true rfl) (Nat.le_of_ble_eq_true rfl) ?_
      refine am_steps ok_Mo_does 1 (x' := (394, [some (.ref 22), some (.int q1), some (.int q12), none, none], [.ref 22, .int (s.1 25), .ref 22], h0, 0, 0)) rfl (Nat.le_of_ble_eq_true rfl) (Nat.le_of_ble_eq_true rfl) ?_
      refine mr_get ok_Mo_does rfl hM (v := .ref 38) rfl (pc' := 397) rfl (Nat.le_of_ble_eq_true rfl) (Nat.le_of_ble_eq_true rfl) ?_
      refine am_steps ok_Mo_does 2 (x' := (401, [some (.ref 22), some (.int q1), some (.int q12), none, none], [.ref 22, .int 256, .ref 38, .int (s.1 25), .ref 22], h0, 0, 0)) rfl (Nat.le_of_ble_eq_true rfl) (Nat.le_of_ble_eq_true rfl) ?_
      refine mr_get ok_Mo_does rfl hM (v := .int (s.1 5)) rfl (pc' := 404) rfl (Nat.le_of_ble_eq_true rfl) (Nat.le_of_ble_eq_true rfl) ?_
      refine am_steps ok_Mo_does 3 (x' := (407, [some (.ref 22), some (.int q1), some (.int q12), none, none], [.int ((256 * (s.1 5)) + q12), .ref 38, .int (s.1 25), .ref 22], h0, 0, 0)) rfl (Nat.le_of_ble_eq_true rfl) (Nat.le_of_ble_eq_true rfl) ?_
      obtain ⟨j339, hx340, hd341⟩ := Option.bind_eq_some_iff.mp hd; clear hd; have hd := hd341; clear hd341
      refine mr_lald ok_Mo_does rfl hM (N := 65536) (by decide) hx340 (pc' := 408) rfl (Nat.le_of_ble_eq_true rfl) (Nat.le_of_ble_eq_true rfl) ?_
      refine am_steps ok_Mo_does 3 (x' := (if (0 : Int32) ≤ (lg_cmp (s.2.2.2 38 j339) 0) then 417 else 413, [some (.ref 22), some (.int q1), some (.int q12), none, none], [.int (s.1 25), .ref 22], h0, 0, 0)) rfl (Nat.le_of_ble_eq_true rfl) (Nat.le_of_ble_eq_true rfl) ?_
      obtain ⟨u342, hA344, hB345⟩ := Option.bind_eq_some_iff.mp hd; clear hd
      have K343 : am_S am_Pr none 3 72 0 0 78 (418, [some (.ref 22), none, some (.int q12), none, none], [.int u342, .int (s.1 25), .ref 22], h0, 0, 0) (mQv q h0) := by
        have hd := hB345
        refine am_steps ok_Mo_does 1 (x' := (419, [some (.ref 22), none, some (.int q12), none, none], [.int ((s.1 25) + u342), .ref 22], h0, 0, 0)) rfl (Nat.le_of_ble_eq_true rfl) (Nat.le_of_ble_eq_true rfl) ?_
        refine mr_put ok_Mo_does rfl hM (by decide) rfl (s' := (mI s 25 ((s.1 25) + u342))) (mfs_25 _ _) rfl (pc' := 422) rfl (Nat.le_of_ble_eq_true rfl) (Nat.le_of_ble_eq_true rfl) (fun h346 hM347 g349 => ?_)
        have f348 := mF.tr (mF.rf) g349
        refine am_steps ok_Mo_does 1 (x' := (423, [some (.ref 22), none, some (.int q12), none, none], [.ref 22], h346, 0, 0)) rfl (Nat.le_of_ble_eq_true rfl) (Nat.le_of_ble_eq_true rfl) ?_
        refine mr_get ok_Mo_does rfl hM347 (v := .ref 38) rfl (pc' := 426) rfl (Nat.le_of_ble_eq_true rfl) (Nat.le_of_ble_eq_true rfl) ?_
        refine am_steps ok_Mo_does 2 (x' := (430, [some (.ref 22), none, some (.int q12), none, none], [.ref 22, .int 256, .ref 38], h346, 0, 0)) rfl (Nat.le_of_ble_eq_true rfl) (Nat.le_of_ble_eq_true rfl) ?_
        refine mr_get ok_Mo_does rfl hM347 (v := .int (s.1 5)) rfl (pc' := 433) rfl (Nat.le_of_ble_eq_true rfl) (Nat.le_of_ble_eq_true rfl) ?_
        refine am_steps ok_Mo_does 6 (x' := (441, [some (.ref 22), none, some (.int q12), none, none], [.int 15, .int 19, .ref 22, .int ((256 * (s.1 5)) + q12), .ref 38], h346, 0, 0)) rfl (Nat.le_of_ble_eq_true rfl) (Nat.le_of_ble_eq_true rfl) ?_
        obtain ⟨q350, hq351, hd352⟩ := Option.bind_eq_some_iff.mp hd; clear hd; have hd := hd352; clear hd352
        refine ar_cv ok_Mo_does hk_Mo_number rfl rfl (As := [.int 19, .int 15]) (ad := 22) (rest := [.int ((256 * (s.1 5)) + q12), .ref 38]) rfl rfl hM347.1 (Nat.le_of_ble_eq_true rfl) (k_Mo_number 19 15 (mI s 25 ((s.1 25) + u342)) h346 hM347 q350 hq351) (Nat.le_of_ble_eq_true rfl) (Nat.le_of_ble_eq_true rfl) (Nat.le_of_ble_eq_true rfl) (Nat.le_of_ble_eq_true rfl) (pc' := 444) rfl (fun r353 h355 z354 => ?_)
        obtain ⟨z359, z360⟩ := z354; subst z359; rw [z360]
        show am_S _ _ _ _ _ _ _ (444, [some (.ref 22), none, some (.int q12), none, none], [.long q350, .int ((256 * (s.1 5)) + q12), .ref 38], h346, 0, 0) _
        refine mr_last ok_Mo_does rfl hM347 (N := 65536) (by decide) hx340 (pc' := 445) rfl (Nat.le_of_ble_eq_true rfl) (Nat.le_of_ble_eq_true rfl) (fun h361 hM362 g364 => ?_)
        have f363 := mF.tr f348 g364
        refine am_steps ok_Mo_does 1 (x' := (535, [some (.ref 22), none, some (.int q12), none, none], [], h361, 0, 0)) rfl (Nat.le_of_ble_eq_true rfl) (Nat.le_of_ble_eq_true rfl) ?_
        cases hd; exact am_ret ok_Mo_does rfl (Nat.le_of_ble_eq_true rfl) (Nat.le_of_ble_eq_true rfl) ⟨rfl, hM362, f363⟩
      clear hB345; have hd := hA344; clear hA344
      refine am_if (fun hc365 => ?_) (fun hc365 => ?_)
      · rw [if_pos hc365] at hd
        refine am_steps ok_Mo_does 1 (x' := (418, [some (.ref 22), some (.int q1), some (.int q12), none, none], [.int 0, .int (s.1 25), .ref 22], h0, 0, 0)) rfl (Nat.le_of_ble_eq_true rfl) (Nat.le_of_ble_eq_true rfl) ?_
        refine am_drop 1 ?_
        cases hd; exact K343 
      · rw [if_neg hc365] at hd
        refine am_steps ok_Mo_does 2 (x' := (418, [some (.ref 22), some (.int q1), some (.int q12), none, none], [.int 1, .int (s.1 25), .ref 22], h0, 0, 0)) rfl (Nat.le_of_ble_eq_true rfl) (Nat.le_of_ble_eq_true rfl) ?_
        refine am_drop 1 ?_
        cases hd; exact K343 
    exact ar_tswk ok_Mo_does rfl hc337 (by decide +kernel) rfl rfl (Nat.le_of_ble_eq_true rfl) (Nat.le_of_ble_eq_true rfl) KT338
  rw [if_neg hc337] at hd
  by_cases hc367 : (s.1 4) = 10
  · rw [if_pos hc367] at hd
    have KT368 : am_S am_Pr none 3 72 0 0 78 (448, [some (.ref 22), some (.int q1), some (.int q12), none, none], [], h0, 0, 0) (mQv q h0) := by
      refine am_steps ok_Mo_does 2 (x' := (450, [some (.ref 22), some (.int q1), some (.int q12), none, none], [.ref 22, .ref 22], h0, 0, 0)) rfl (Nat.le_of_ble_eq_true rfl) (Nat.le_of_ble_eq_true rfl) ?_
      refine mr_get ok_Mo_does rfl hM (v := .int (s.1 25)) rfl (pc' := 453) rfl (Nat.le_of_ble_eq_true rfl) (Nat.le_of_ble_eq_true rfl) ?_
      refine am_steps ok_Mo_does 2 (x' := (455, [some (.ref 22), some (.int q1), some (.int q12), none, none], [.int ((s.1 25) - 1), .ref 22], h0, 0, 0)) rfl (Nat.le_of_ble_eq_true rfl) (Nat.le_of_ble_eq_true rfl) ?_
      refine mr_put ok_Mo_does rfl hM (by decide) rfl (s' := (mI s 25 ((s.1 25) - 1))) (mfs_25 _ _) rfl (pc' := 458) rfl (Nat.le_of_ble_eq_true rfl) (Nat.le_of_ble_eq_true rfl) (fun h369 hM370 g372 => ?_)
      have f371 := mF.tr (mF.rf) g372
      refine am_steps ok_Mo_does 1 (x' := (459, [some (.ref 22), some (.int q1), some (.int q12), none, none], [.ref 22], h369, 0, 0)) rfl (Nat.le_of_ble_eq_true rfl) (Nat.le_of_ble_eq_true rfl) ?_
      refine mr_get ok_Mo_does rfl hM370 (v := .ref 38) rfl (pc' := 462) rfl (Nat.le_of_ble_eq_true rfl) (Nat.le_of_ble_eq_true rfl) ?_
      refine am_steps ok_Mo_does 2 (x' := (466, [some (.ref 22), some (.int q1), some (.int q12), none, none], [.ref 22, .int 256, .ref 38], h369, 0, 0)) rfl (Nat.le_of_ble_eq_true rfl) (Nat.le_of_ble_eq_true rfl) ?_
      refine mr_get ok_Mo_does rfl hM370 (v := .int (s.1 5)) rfl (pc' := 469) rfl (Nat.le_of_ble_eq_true rfl) (Nat.le_of_ble_eq_true rfl) ?_
      refine am_steps ok_Mo_does 4 (x' := (475, [some (.ref 22), some (.int q1), some (.int q12), none, none], [.long (Int64.ofNat 18446744073709551615), .int ((256 * (s.1 5)) + q12), .ref 38], h369, 0, 0)) rfl (Nat.le_of_ble_eq_true rfl) (Nat.le_of_ble_eq_true rfl) ?_
      obtain ⟨j373, hx374, hd375⟩ := Option.bind_eq_some_iff.mp hd; clear hd; have hd := hd375; clear hd375
      refine mr_last ok_Mo_does rfl hM370 (N := 65536) (by decide) hx374 (pc' := 476) rfl (Nat.le_of_ble_eq_true rfl) (Nat.le_of_ble_eq_true rfl) (fun h376 hM377 g379 => ?_)
      have f378 := mF.tr f371 g379
      refine am_steps ok_Mo_does 1 (x' := (535, [some (.ref 22), some (.int q1), some (.int q12), none, none], [], h376, 0, 0)) rfl (Nat.le_of_ble_eq_true rfl) (Nat.le_of_ble_eq_true rfl) ?_
      cases hd; exact am_ret ok_Mo_does rfl (Nat.le_of_ble_eq_true rfl) (Nat.le_of_ble_eq_true rfl) ⟨rfl, hM377, f378⟩
    exact ar_tswk ok_Mo_does rfl hc367 (by decide +kernel) rfl rfl (Nat.le_of_ble_eq_true rfl) (Nat.le_of_ble_eq_true rfl) KT368
  rw [if_neg hc367] at hd
  by_cases hc381 : (s.1 4) = 11
  · rw [if_pos hc381] at hd
    have KT382 : am_S am_Pr none 3 72 0 0 78 (479, [some (.ref 22), some (.int q1), some (.int q12), none, none], [], h0, 0, 0) (mQv q h0) := by
      refine am_steps ok_Mo_does 1 (x' := (480, [some (.ref 22), some (.int q1), some (.int q12), none, none], [.ref 22], h0, 0, 0)) rfl (Nat.le_of_ble_eq_true rfl) (Nat.le_of_ble_eq_true rfl) ?_
      refine mr_get ok_Mo_does rfl hM (v := .ref 32) rfl (pc' := 483) rfl (Nat.le_of_ble_eq_true rfl) (Nat.le_of_ble_eq_true rfl) ?_
      refine am_steps ok_Mo_does 2 (x' := (486, [some (.ref 22), some (.int q1), some (.int q12), none, none], [.ref 22, .int 64, .ref 32], h0, 0, 0)) rfl (Nat.le_of_ble_eq_true rfl) (Nat.le_of_ble_eq_true rfl) ?_
      refine mr_get ok_Mo_does rfl hM (v := .int (s.1 5)) rfl (pc' := 489) rfl (Nat.le_of_ble_eq_true rfl) (Nat.le_of_ble_eq_true rfl) ?_
      refine am_steps ok_Mo_does 4 (x' := (493, [some (.ref 22), some (.int q1), some (.int q12), none, none], [.int ((64 * (s.1 5)) + q1), .ref 32, .int ((64 * (s.1 5)) + q1), .ref 32], h0, 0, 0)) rfl (Nat.le_of_ble_eq_true rfl) (Nat.le_of_ble_eq_true rfl) ?_
      obtain ⟨j383, hx384, hd385⟩ := Option.bind_eq_some_iff.mp hd; clear hd; have hd := hd385; clear hd385
      refine mr_lald ok_Mo_does rfl hM (N := 16384) (by decide) hx384 (pc' := 494) rfl (Nat.le_of_ble_eq_true rfl) (Nat.le_of_ble_eq_true rfl) ?_
      refine am_steps ok_Mo_does 3 (x' := (499, [some (.ref 22), some (.int q1), some (.int q12), none, none], [.int 15, .int 18, .ref 22, .long (s.2.2.2 32 j383), .int ((64 * (s.1 5)) + q1), .ref 32], h0, 0, 0)) rfl (Nat.le_of_ble_eq_true rfl) (Nat.le_of_ble_eq_true rfl) ?_
      obtain ⟨q386, hq387, hd388⟩ := Option.bind_eq_some_iff.mp hd; clear hd; have hd := hd388; clear hd388
      refine ar_cv ok_Mo_does hk_Mo_number rfl rfl (As := [.int 18, .int 15]) (ad := 22) (rest := [.long (s.2.2.2 32 j383), .int ((64 * (s.1 5)) + q1), .ref 32]) rfl rfl hM.1 (Nat.le_of_ble_eq_true rfl) (k_Mo_number 18 15 s h0 hM q386 hq387) (Nat.le_of_ble_eq_true rfl) (Nat.le_of_ble_eq_true rfl) (Nat.le_of_ble_eq_true rfl) (Nat.le_of_ble_eq_true rfl) (pc' := 502) rfl (fun r389 h391 z390 => ?_)
      obtain ⟨z395, z396⟩ := z390; subst z395; rw [z396]
      show am_S _ _ _ _ _ _ _ (502, [some (.ref 22), some (.int q1), some (.int q12), none, none], [.long q386, .long (s.2.2.2 32 j383), .int ((64 * (s.1 5)) + q1), .ref 32], h0, 0, 0) _
      refine am_steps ok_Mo_does 1 (x' := (503, [some (.ref 22), some (.int q1), some (.int q12), none, none], [.long ((s.2.2.2 32 j383) + q386), .int ((64 * (s.1 5)) + q1), .ref 32], h0, 0, 0)) rfl (Nat.le_of_ble_eq_true rfl) (Nat.le_of_ble_eq_true rfl) ?_
      refine mr_last ok_Mo_does rfl hM (N := 16384) (by decide) hx384 (pc' := 504) rfl (Nat.le_of_ble_eq_true rfl) (Nat.le_of_ble_eq_true rfl) (fun h397 hM398 g400 => ?_)
      have f399 := mF.tr (mF.rf) g400
      refine am_steps ok_Mo_does 1 (x' := (535, [some (.ref 22), some (.int q1), some (.int q12), none, none], [], h397, 0, 0)) rfl (Nat.le_of_ble_eq_true rfl) (Nat.le_of_ble_eq_true rfl) ?_
      cases hd; exact am_ret ok_Mo_does rfl (Nat.le_of_ble_eq_true rfl) (Nat.le_of_ble_eq_true rfl) ⟨rfl, hM398, f399⟩
    exact ar_tswk ok_Mo_does rfl hc381 (by decide +kernel) rfl rfl (Nat.le_of_ble_eq_true rfl) (Nat.le_of_ble_eq_true rfl) KT382
  rw [if_neg hc381] at hd
  by_cases hc402 : (s.1 4) = 12
  · rw [if_pos hc402] at hd
    have KT403 : am_S am_Pr none 3 72 0 0 78 (507, [some (.ref 22), some (.int q1), some (.int q12), none, none], [], h0, 0, 0) (mQv q h0) := by
      refine am_steps ok_Mo_does 1 (x' := (508, [some (.ref 22), some (.int q1), some (.int q12), none, none], [.ref 22], h0, 0, 0)) rfl (Nat.le_of_ble_eq_true rfl) (Nat.le_of_ble_eq_true rfl) ?_
      refine mr_get ok_Mo_does rfl hM (v := .ref 32) rfl (pc' := 511) rfl (Nat.le_of_ble_eq_true rfl) (Nat.le_of_ble_eq_true rfl) ?_
      refine am_steps ok_Mo_does 2 (x' := (514, [some (.ref 22), some (.int q1), some (.int q12), none, none], [.ref 22, .int 64, .ref 32], h0, 0, 0)) rfl (Nat.le_of_ble_eq_true rfl) (Nat.le_of_ble_eq_true rfl) ?_
      refine mr_get ok_Mo_does rfl hM (v := .int (s.1 5)) rfl (pc' := 517) rfl (Nat.le_of_ble_eq_true rfl) (Nat.le_of_ble_eq_true rfl) ?_
      refine am_steps ok_Mo_does 4 (x' := (521, [some (.ref 22), some (.int q1), some (.int q12), none, none], [.int ((64 * (s.1 5)) + q1), .ref 32, .int ((64 * (s.1 5)) + q1), .ref 32], h0, 0, 0)) rfl (Nat.le_of_ble_eq_true rfl) (Nat.le_of_ble_eq_true rfl) ?_
      obtain ⟨j404, hx405, hd406⟩ := Option.bind_eq_some_iff.mp hd; clear hd; have hd := hd406; clear hd406
      refine mr_lald ok_Mo_does rfl hM (N := 16384) (by decide) hx405 (pc' := 522) rfl (Nat.le_of_ble_eq_true rfl) (Nat.le_of_ble_eq_true rfl) ?_
      refine am_steps ok_Mo_does 3 (x' := (527, [some (.ref 22), some (.int q1), some (.int q12), none, none], [.int 15, .int 18, .ref 22, .long (s.2.2.2 32 j404), .int ((64 * (s.1 5)) + q1), .ref 32], h0, 0, 0)) rfl (Nat.le_of_ble_eq_true rfl) (Nat.le_of_ble_eq_true rfl) ?_
      obtain ⟨q407, hq408, hd409⟩ := Option.bind_eq_some_iff.mp hd; clear hd; have hd := hd409; clear hd409
      refine ar_cv ok_Mo_does hk_Mo_number rfl rfl (As := [.int 18, .int 15]) (ad := 22) (rest := [.long (s.2.2.2 32 j404), .int ((64 * (s.1 5)) + q1), .ref 32]) rfl rfl hM.1 (Nat.le_of_ble_eq_true rfl) (k_Mo_number 18 15 s h0 hM q407 hq408) (Nat.le_of_ble_eq_true rfl) (Nat.le_of_ble_eq_true rfl) (Nat.le_of_ble_eq_true rfl) (Nat.le_of_ble_eq_true rfl) (pc' := 530) rfl (fun r410 h412 z411 => ?_)
      obtain ⟨z416, z417⟩ := z411; subst z416; rw [z417]
      show am_S _ _ _ _ _ _ _ (530, [some (.ref 22), some (.int q1), some (.int q12), none, none], [.long q407, .long (s.2.2.2 32 j404), .int ((64 * (s.1 5)) + q1), .ref 32], h0, 0, 0) _
      refine am_steps ok_Mo_does 1 (x' := (531, [some (.ref 22), some (.int q1), some (.int q12), none, none], [.long ((s.2.2.2 32 j404) - q407), .int ((64 * (s.1 5)) + q1), .ref 32], h0, 0, 0)) rfl (Nat.le_of_ble_eq_true rfl) (Nat.le_of_ble_eq_true rfl) ?_
      refine mr_last ok_Mo_does rfl hM (N := 16384) (by decide) hx405 (pc' := 532) rfl (Nat.le_of_ble_eq_true rfl) (Nat.le_of_ble_eq_true rfl) (fun h418 hM419 g421 => ?_)
      have f420 := mF.tr (mF.rf) g421
      refine am_steps ok_Mo_does 1 (x' := (535, [some (.ref 22), some (.int q1), some (.int q12), none, none], [], h418, 0, 0)) rfl (Nat.le_of_ble_eq_true rfl) (Nat.le_of_ble_eq_true rfl) ?_
      cases hd; exact am_ret ok_Mo_does rfl (Nat.le_of_ble_eq_true rfl) (Nat.le_of_ble_eq_true rfl) ⟨rfl, hM419, f420⟩
    exact ar_tswk ok_Mo_does rfl hc402 (by decide +kernel) rfl rfl (Nat.le_of_ble_eq_true rfl) (Nat.le_of_ble_eq_true rfl) KT403
  rw [if_neg hc402] at hd
  have KT423 : am_S am_Pr none 3 72 0 0 78 (535, [some (.ref 22), some (.int q1), some (.int q12), none, none], [], h0, 0, 0) (mQv q h0) := by
    cases hd; exact am_ret ok_Mo_does rfl (Nat.le_of_ble_eq_true rfl) (Nat.le_of_ble_eq_true rfl) ⟨rfl, hM, (mF.rf)⟩
  have ho428 : (s.1 4).toInt < 0 ∨ 12 < (s.1 4).toInt := tsw_out (fun c425 h426 h427 e424 => by
    have c425x : c425 = 0 ∨ c425 = 1 ∨ c425 = 2 ∨ c425 = 3 ∨ c425 = 4 ∨ c425 = 5 ∨ c425 = 6 ∨ c425 = 7 ∨ c425 = 8 ∨ c425 = 9 ∨ c425 = 10 ∨ c425 = 11 ∨ c425 = 12 := by omega
    rcases c425x with rfl | rfl | rfl | rfl | rfl | rfl | rfl | rfl | rfl | rfl | rfl | rfl | rfl
    · exact hc23 e424
    · exact hc48 e424
    · exact hc128 e424
    · exact hc164 (Or.inl e424)
    · exact hc164 (Or.inr e424)
    · exact hc223 e424
    · exact hc235 e424
    · exact hc269 e424
    · exact hc303 e424
    · exact hc337 e424
    · exact hc367 e424
    · exact hc381 e424
    · exact hc402 e424)
  exact ar_tsw ok_Mo_does rfl ho428 rfl (Nat.le_of_ble_eq_true rfl) (Nat.le_of_ble_eq_true rfl) KT423
