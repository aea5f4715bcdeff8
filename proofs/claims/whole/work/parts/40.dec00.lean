/-! Methods of the reference as functions of its state. -/
def d_Mo_code (a : Int32) (b : Int32) (c : Int32) (d : Int32) : Option (Int64) := some (((((((Int32.toInt64 a) * (Int64.ofNat 256)) + (Int32.toInt64 b)) * (Int64.ofNat 256)) + (Int32.toInt64 c)) * (Int64.ofNat 256)) + (Int32.toInt64 d))
set_option maxHeartbeats 4000000 in
set_option maxRecDepth 100000 in
theorem k_Mo_code (a : Int32) (b : Int32) (c : Int32) (d : Int32) (h0 : am_H) (q : Int64) (hd : d_Mo_code a b c d = some q) : am_Me am_Pr none 0 0 0 0 13 [.int a, .int b, .int c, .int d] h0 (am_is (some (.long q)) h0) := by
  refine am_enter (d := hd_Mo_code) rfl (by decide +kernel) (Nat.le_of_ble_eq_true rfl) ?_
  show am_S _ _ _ _ _ _ _ (0, [some (.int a), some (.int b), some (.int c), some (.int d)], [], h0, 0, 0) _
  unfold d_Mo_code at hd
  refine am_steps ok_Mo_code 17 (x' := (23, [some (.int a), some (.int b), some (.int c), some (.int d)], [.long (((((((Int32.toInt64 a) * (Int64.ofNat 256)) + (Int32.toInt64 b)) * (Int64.ofNat 256)) + (Int32.toInt64 c)) * (Int64.ofNat 256)) + (Int32.toInt64 d))], h0, 0, 0)) rfl (Nat.le_of_ble_eq_true rfl) (Nat.le_of_ble_eq_true rfl) ?_
  cases hd; exact am_ret ok_Mo_code rfl (Nat.le_of_ble_eq_true rfl) (Nat.le_of_ble_eq_true rfl) ⟨rfl, rfl⟩
def l_Mo_push_3 : Nat → Int32 → Int32 → mS → Option (mS)
  | 0, _, _, _ => none
  | fu + 1, v1, v2, s => if (v2 : Int32) < 0 then (some s) else ((am_ix (s.1 1) 400).bind fun j2 => (l_Mo_push_3 fu v1 (v2 + (-8)) (mI (mA s 23 j2 (am_bn 2 (Int8.toInt32 (Int32.toInt8 (v1 >>> (v2 &&& 31)))))) 1 ((s.1 1) + 1))))
set_option maxHeartbeats 4000000 in
set_option maxRecDepth 100000 in
theorem L_Mo_push_3 {Q : Option Value → am_H → Prop} (h0 : am_H) : ∀ (fu : Nat) (v1 : Int32) (v2 : Int32) (s : mS) (h : am_H), RM s h → mF h0 h → ∀ q : mS, l_Mo_push_3 fu v1 v2 s = some q → (∀ h' : am_H, RM q h' → mF h0 h' → am_S am_Pr none 0 0 0 0 14 (36, [some (.ref 22), some (.int v1), none], [], h', 0, 0) Q) → am_S am_Pr none 0 0 0 0 14 (3, [some (.ref 22), some (.int v1), some (.int v2)], [], h, 0, 0) Q := by
  intro fu
  induction fu with
  | zero => intro v1 v2 s h hM f q hd; cases hd
  | succ fu ih =>
    intro v1 v2 s h hM f q hd kk
    unfold l_Mo_push_3 at hd
    refine am_steps ok_Mo_push 2 (x' := (if (v2 : Int32) < 0 then 36 else 7, [some (.ref 22), some (.int v1), some (.int v2)], [], h, 0, 0)) rfl (Nat.le_of_ble_eq_true rfl) (Nat.le_of_ble_eq_true rfl) ?_
    refine am_if (fun hc1 => ?_) (fun hc1 => ?_)
    · rw [if_pos hc1] at hd
      refine am_drop 2 ?_
      cases hd; exact kk h hM f
    · rw [if_neg hc1] at hd
      refine am_steps ok_Mo_push 1 (x' := (8, [some (.ref 22), some (.int v1), some (.int v2)], [.ref 22], h, 0, 0)) rfl (Nat.le_of_ble_eq_true rfl) (Nat.le_of_ble_eq_true rfl) ?_
      refine mr_get ok_Mo_push rfl hM (v := .ref 23) rfl (pc' := 11) rfl (Nat.le_of_ble_eq_true rfl) (Nat.le_of_ble_eq_true rfl) ?_
      refine am_steps ok_Mo_push 1 (x' := (12, [some (.ref 22), some (.int v1), some (.int v2)], [.ref 22, .ref 23], h, 0, 0)) rfl (Nat.le_of_ble_eq_true rfl) (Nat.le_of_ble_eq_true rfl) ?_
      refine mr_get ok_Mo_push rfl hM (v := .int (s.1 1)) rfl (pc' := 15) rfl (Nat.le_of_ble_eq_true rfl) (Nat.le_of_ble_eq_true rfl) ?_
      refine am_steps ok_Mo_push 4 (x' := (19, [some (.ref 22), some (.int v1), some (.int v2)], [.int (Int8.toInt32 (Int32.toInt8 (v1 >>> (v2 &&& 31)))), .int (s.1 1), .ref 23], h, 0, 0)) rfl (Nat.le_of_ble_eq_true rfl) (Nat.le_of_ble_eq_true rfl) ?_
      obtain ⟨j2, hx3, hd4⟩ := Option.bind_eq_some_iff.mp hd; clear hd; have hd := hd4; clear hd4
      refine mr_bast ok_Mo_push rfl hM (N := 400) (by decide) (Or.inl rfl) hx3 (pc' := 20) rfl (Nat.le_of_ble_eq_true rfl) (Nat.le_of_ble_eq_true rfl) (fun h5 hM6 g8 => ?_)
      have f7 := mF.tr f g8
      refine am_steps ok_Mo_push 2 (x' := (22, [some (.ref 22), some (.int v1), some (.int v2)], [.ref 22, .ref 22], h5, 0, 0)) rfl (Nat.le_of_ble_eq_true rfl) (Nat.le_of_ble_eq_true rfl) ?_
      refine mr_get ok_Mo_push rfl hM6 (v := .int (s.1 1)) rfl (pc' := 25) rfl (Nat.le_of_ble_eq_true rfl) (Nat.le_of_ble_eq_true rfl) ?_
      refine am_steps ok_Mo_push 2 (x' := (27, [some (.ref 22), some (.int v1), some (.int v2)], [.int ((s.1 1) + 1), .ref 22], h5, 0, 0)) rfl (Nat.le_of_ble_eq_true rfl) (Nat.le_of_ble_eq_true rfl) ?_
      refine mr_put ok_Mo_push rfl hM6 (by decide) rfl (s' := (mI (mA s 23 j2 (am_bn 2 (Int8.toInt32 (Int32.toInt8 (v1 >>> (v2 &&& 31)))))) 1 ((s.1 1) + 1))) (mfs_1 _ _) rfl (pc' := 30) rfl (Nat.le_of_ble_eq_true rfl) (Nat.le_of_ble_eq_true rfl) (fun h9 hM10 g12 => ?_)
      have f11 := mF.tr f7 g12
      refine am_steps ok_Mo_push 2 (x' := (3, [some (.ref 22), some (.int v1), some (.int (v2 + (-8)))], [], h9, 0, 0)) rfl (Nat.le_of_ble_eq_true rfl) (Nat.le_of_ble_eq_true rfl) ?_
      exact ih v1 (v2 + (-8)) (mI (mA s 23 j2 (am_bn 2 (Int8.toInt32 (Int32.toInt8 (v1 >>> (v2 &&& 31)))))) 1 ((s.1 1) + 1)) h9 hM10 f11 q hd kk
def d_Mo_push (a : Int32) (s : mS) : Option (mS) := (l_Mo_push_3 100000 a 24 s).bind fun q13 => (some q13)
set_option maxHeartbeats 4000000 in
set_option maxRecDepth 100000 in
theorem k_Mo_push (a : Int32) (s : mS) (h0 : am_H) (hM : RM s h0) (q : mS) (hd : d_Mo_push a s = some q) : am_Me am_Pr none 0 0 0 0 14 [.ref 22, .int a] h0 (mQv q h0) := by
  refine am_enter (d := hd_Mo_push) rfl (by decide +kernel) (Nat.le_of_ble_eq_true rfl) ?_
  show am_S _ _ _ _ _ _ _ (0, [some (.ref 22), some (.int a), none], [], h0, 0, 0) _
  unfold d_Mo_push at hd
  refine am_steps ok_Mo_push 2 (x' := (3, [some (.ref 22), some (.int a), some (.int 24)], [], h0, 0, 0)) rfl (Nat.le_of_ble_eq_true rfl) (Nat.le_of_ble_eq_true rfl) ?_
  obtain ⟨q13, hq14, hd15⟩ := Option.bind_eq_some_iff.mp hd; clear hd; have hd := hd15; clear hd15
  refine L_Mo_push_3 h0 100000 a 24 s h0 hM (mF.rf) q13 hq14 (fun h16 hM17 f18 => ?_)
  show am_S _ _ _ _ _ _ _ (36, [some (.ref 22), some (.int a), none], [], h16, 0, 0) _
  cases hd; exact am_ret ok_Mo_push rfl (Nat.le_of_ble_eq_true rfl) (Nat.le_of_ble_eq_true rfl) ⟨rfl, hM17, f18⟩
def d_Mo_feed (a : Int32) (b : Int32) (c : Int32) (d : Int32) (e : Int32) (s : mS) : Option (Int32 × mS) := if (((s.1 1) + 20) : Int32) ≤ 400 then ((d_Mo_push a s).bind fun q2 => ((d_Mo_push b q2).bind fun q11 => ((d_Mo_push c q11).bind fun q20 => ((d_Mo_push d q20).bind fun q29 => ((d_Mo_push e q29).bind fun q38 => (some (1, q38))))))) else (some (0, s))
set_option maxHeartbeats 4000000 in
set_option maxRecDepth 100000 in
theorem k_Mo_feed (a : Int32) (b : Int32) (c : Int32) (d : Int32) (e : Int32) (s : mS) (h0 : am_H) (hM : RM s h0) (q : Int32 × mS) (hd : d_Mo_feed a b c d e s = some q) : am_Me am_Pr none 1 22 0 0 15 [.ref 22, .int a, .int b, .int c, .int d, .int e] h0 (mQr (.int q.1) q.2 h0) := by
  refine am_enter (d := hd_Mo_feed) rfl (by decide +kernel) (Nat.le_of_ble_eq_true rfl) ?_
  show am_S _ _ _ _ _ _ _ (0, [some (.ref 22), some (.int a), some (.int b), some (.int c), some (.int d), some (.int e)], [], h0, 0, 0) _
  unfold d_Mo_feed at hd
  refine am_steps ok_Mo_feed 1 (x' := (1, [some (.ref 22), some (.int a), some (.int b), some (.int c), some (.int d), some (.int e)], [.ref 22], h0, 0, 0)) rfl (Nat.le_of_ble_eq_true rfl) (Nat.le_of_ble_eq_true rfl) ?_
  refine mr_get ok_Mo_feed rfl hM (v := .int (s.1 1)) rfl (pc' := 4) rfl (Nat.le_of_ble_eq_true rfl) (Nat.le_of_ble_eq_true rfl) ?_
  refine am_steps ok_Mo_feed 4 (x' := (if (((s.1 1) + 20) : Int32) ≤ 400 then 15 else 13, [some (.ref 22), some (.int a), some (.int b), some (.int c), some (.int d), some (.int e)], [], h0, 0, 0)) rfl (Nat.le_of_ble_eq_true rfl) (Nat.le_of_ble_eq_true rfl) ?_
  refine am_if (fun hc1 => ?_) (fun hc1 => ?_)
  · rw [if_pos hc1] at hd
    refine am_steps ok_Mo_feed 2 (x' := (17, [some (.ref 22), some (.int a), some (.int b), some (.int c), some (.int d), some (.int e)], [.int a, .ref 22], h0, 0, 0)) rfl (Nat.le_of_ble_eq_true rfl) (Nat.le_of_ble_eq_true rfl) ?_
    obtain ⟨q2, hq3, hd4⟩ := Option.bind_eq_some_iff.mp hd; clear hd; have hd := hd4; clear hd4
    refine ar_cv ok_Mo_feed hk_Mo_push rfl rfl (As := [.int a]) (ad := 22) (rest := []) rfl rfl hM.1 (Nat.le_of_ble_eq_true rfl) (k_Mo_push a s h0 hM q2 hq3) (Nat.le_of_ble_eq_true rfl) (Nat.le_of_ble_eq_true rfl) (Nat.le_of_ble_eq_true rfl) (Nat.le_of_ble_eq_true rfl) (pc' := 20) rfl (fun r5 h7 z6 => ?_)
    obtain ⟨rfl, hM8, g10⟩ := z6
    have f9 := mF.tr (mF.rf) g10
    show am_S _ _ _ _ _ _ _ (20, [some (.ref 22), some (.int a), some (.int b), some (.int c), some (.int d), some (.int e)], [], h7, 0, 0) _
    refine am_steps ok_Mo_feed 2 (x' := (22, [some (.ref 22), some (.int a), some (.int b), some (.int c), some (.int d), some (.int e)], [.int b, .ref 22], h7, 0, 0)) rfl (Nat.le_of_ble_eq_true rfl) (Nat.le_of_ble_eq_true rfl) ?_
    obtain ⟨q11, hq12, hd13⟩ := Option.bind_eq_some_iff.mp hd; clear hd; have hd := hd13; clear hd13
    refine ar_cv ok_Mo_feed hk_Mo_push rfl rfl (As := [.int b]) (ad := 22) (rest := []) rfl rfl hM8.1 (Nat.le_of_ble_eq_true rfl) (k_Mo_push b q2 h7 hM8 q11 hq12) (Nat.le_of_ble_eq_true rfl) (Nat.le_of_ble_eq_true rfl) (Nat.le_of_ble_eq_true rfl) (Nat.le_of_ble_eq_true rfl) (pc' := 25) rfl (fun r14 h16 z15 => ?_)
    obtain ⟨rfl, hM17, g19⟩ := z15
    have f18 := mF.tr f9 g19
    show am_S _ _ _ _ _ _ _ (25, [some (.ref 22), some (.int a), some (.int b), some (.int c), some (.int d), some (.int e)], [], h16, 0, 0) _
    refine am_steps ok_Mo_feed 2 (x' := (27, [some (.ref 22), some (.int a), some (.int b), some (.int c), some (.int d), some (.int e)], [.int c, .ref 22], h16, 0, 0)) rfl (Nat.le_of_ble_eq_true rfl) (Nat.le_of_ble_eq_true rfl) ?_
    obtain ⟨q20, hq21, hd22⟩ := Option.bind_eq_some_iff.mp hd; clear hd; have hd := hd22; clear hd22
    refine ar_cv ok_Mo_feed hk_Mo_push rfl rfl (As := [.int c]) (ad := 22) (rest := []) rfl rfl hM17.1 (Nat.le_of_ble_eq_true rfl) (k_Mo_push c q11 h16 hM17 q20 hq21) (Nat.le_of_ble_eq_true rfl) (Nat.le_of_ble_eq_true rfl) (Nat.le_of_ble_eq_true rfl) (Nat.le_of_ble_eq_true rfl) (pc' := 30) rfl (fun r23 h25 z24 => ?_)
    obtain ⟨rfl, hM26, g28⟩ := z24
    have f27 := mF.tr f18 g28
    show am_S _ _ _ _ _ _ _ (30, [some (.ref 22), some (.int a), some (.int b), some (.int c), some (.int d), some (.int e)], [], h25, 0, 0) _
    refine am_steps ok_Mo_feed 2 (x' := (33, [some (.ref 22), some (.int a), some (.int b), some (.int c), some (.int d), some (.int e)], [.int d, .ref 22], h25, 0, 0)) rfl (Nat.le_of_ble_eq_true rfl) (Nat.le_of_ble_eq_true rfl) ?_
    obtain ⟨q29, hq30, hd31⟩ := Option.bind_eq_some_iff.mp hd; clear hd; have hd := hd31; clear hd31
    refine ar_cv ok_Mo_feed hk_Mo_push rfl rfl (As := [.int d]) (ad := 22) (rest := []) rfl rfl hM26.1 (Nat.le_of_ble_eq_true rfl) (k_Mo_push d q20 h25 hM26 q29 hq30) (Nat.le_of_ble_eq_true rfl) (Nat.le_of_ble_eq_true rfl) (Nat.le_of_ble_eq_true rfl) (Nat.le_of_ble_eq_true rfl) (pc' := 36) rfl (fun r32 h34 z33 => ?_)
    obtain ⟨rfl, hM35, g37⟩ := z33
    have f36 := mF.tr f27 g37
    show am_S _ _ _ _ _ _ _ (36, [some (.ref 22), some (.int a), some (.int b), some (.int c), some (.int d), some (.int e)], [], h34, 0, 0) _
    refine am_steps ok_Mo_feed 2 (x' := (39, [some (.ref 22), some (.int a), some (.int b), some (.int c), some (.int d), some (.int e)], [.int e, .ref 22], h34, 0, 0)) rfl (Nat.le_of_ble_eq_true rfl) (Nat.le_of_ble_eq_true rfl) ?_
    obtain ⟨q38, hq39, hd40⟩ := Option.bind_eq_some_iff.mp hd; clear hd; have hd := hd40; clear hd40
    refine ar_cv ok_Mo_feed hk_Mo_push rfl rfl (As := [.int e]) (ad := 22) (rest := []) rfl rfl hM35.1 (Nat.le_of_ble_eq_true rfl) (k_Mo_push e q29 h34 hM35 q38 hq39) (Nat.le_of_ble_eq_true rfl) (Nat.le_of_ble_eq_true rfl) (Nat.le_of_ble_eq_true rfl) (Nat.le_of_ble_eq_true rfl) (pc' := 42) rfl (fun r41 h43 z42 => ?_)
    obtain ⟨rfl, hM44, g46⟩ := z42
    have f45 := mF.tr f36 g46
    show am_S _ _ _ _ _ _ _ (42, [some (.ref 22), some (.int a), some (.int b), some (.int c), some (.int d), some (.int e)], [], h43, 0, 0) _
    refine am_steps ok_Mo_feed 1 (x' := (43, [some (.ref 22), some (.int a), some (.int b), some (.int c), some (.int d), some (.int e)], [.int 1], h43, 0, 0)) rfl (Nat.le_of_ble_eq_true rfl) (Nat.le_of_ble_eq_true rfl) ?_
    cases hd; exact am_ret ok_Mo_feed rfl (Nat.le_of_ble_eq_true rfl) (Nat.le_of_ble_eq_true rfl) ⟨rfl, hM44, f45⟩
  · rw [if_neg hc1] at hd
    refine am_steps ok_Mo_feed 1 (x' := (14, [some (.ref 22), some (.int a), some (.int b), some (.int c), some (.int d), some (.int e)], [.int 0], h0, 0, 0)) rfl (Nat.le_of_ble_eq_true rfl) (Nat.le_of_ble_eq_true rfl) ?_
    cases hd; exact am_ret ok_Mo_feed rfl (Nat.le_of_ble_eq_true rfl) (Nat.le_of_ble_eq_true rfl) ⟨rfl, hM, (mF.rf)⟩
def d_Mo_put (a : Int32) (s : mS) : Option (mS) := if ¬ ((s.1 7) : Int32) = 32768 then ((am_ix (s.1 7) 32768).bind fun j2 => (some (mI (mA s 25 j2 (am_bn 2 (Int8.toInt32 (Int32.toInt8 a)))) 7 ((s.1 7) + 1)))) else (some s)
set_option maxHeartbeats 4000000 in
set_option maxRecDepth 100000 in
theorem k_Mo_put (a : Int32) (s : mS) (h0 : am_H) (hM : RM s h0) (q : mS) (hd : d_Mo_put a s = some q) : am_Me am_Pr none 0 0 0 0 16 [.ref 22, .int a] h0 (mQv q h0) := by
  refine am_enter (d := hd_Mo_put) rfl (by decide +kernel) (Nat.le_of_ble_eq_true rfl) ?_
  show am_S _ _ _ _ _ _ _ (0, [some (.ref 22), some (.int a)], [], h0, 0, 0) _
  unfold d_Mo_put at hd
  refine am_steps ok_Mo_put 1 (x' := (1, [some (.ref 22), some (.int a)], [.ref 22], h0, 0, 0)) rfl (Nat.le_of_ble_eq_true rfl) (Nat.le_of_ble_eq_true rfl) ?_
  refine mr_get ok_Mo_put rfl hM (v := .int (s.1 7)) rfl (pc' := 4) rfl (Nat.le_of_ble_eq_true rfl) (Nat.le_of_ble_eq_true rfl) ?_
  refine am_steps ok_Mo_put 1 (x' := (5, [some (.ref 22), some (.int a)], [.ref 22, .int (s.1 7)], h0, 0, 0)) rfl (Nat.le_of_ble_eq_true rfl) (Nat.le_of_ble_eq_true rfl) ?_
  refine mr_get ok_Mo_put rfl hM (v := .ref 25) rfl (pc' := 8) rfl (Nat.le_of_ble_eq_true rfl) (Nat.le_of_ble_eq_true rfl) ?_
  refine ar_alen ok_Mo_put rfl (by decide) (hM.2 (25, 2, 32768) (by decide)) (by decide) (w := 32768) (by decide +kernel) (pc' := 9) rfl (Nat.le_of_ble_eq_true rfl) (Nat.le_of_ble_eq_true rfl) ?_
  refine am_steps ok_Mo_put 1 (x' := (if ¬ ((s.1 7) : Int32) = 32768 then 13 else 12, [some (.ref 22), some (.int a)], [], h0, 0, 0)) rfl (Nat.le_of_ble_eq_true rfl) (Nat.le_of_ble_eq_true rfl) ?_
  refine am_if (fun hc1 => ?_) (fun hc1 => ?_)
  · rw [if_pos hc1] at hd
    refine am_steps ok_Mo_put 1 (x' := (14, [some (.ref 22), some (.int a)], [.ref 22], h0, 0, 0)) rfl (Nat.le_of_ble_eq_true rfl) (Nat.le_of_ble_eq_true rfl) ?_
    refine mr_get ok_Mo_put rfl hM (v := .ref 25) rfl (pc' := 17) rfl (Nat.le_of_ble_eq_true rfl) (Nat.le_of_ble_eq_true rfl) ?_
    refine am_steps ok_Mo_put 1 (x' := (18, [some (.ref 22), some (.int a)], [.ref 22, .ref 25], h0, 0, 0)) rfl (Nat.le_of_ble_eq_true rfl) (Nat.le_of_ble_eq_true rfl) ?_
    refine mr_get ok_Mo_put rfl hM (v := .int (s.1 7)) rfl (pc' := 21) rfl (Nat.le_of_ble_eq_true rfl) (Nat.le_of_ble_eq_true rfl) ?_
    refine am_steps ok_Mo_put 2 (x' := (23, [some (.ref 22), some (.int a)], [.int (Int8.toInt32 (Int32.toInt8 a)), .int (s.1 7), .ref 25], h0, 0, 0)) rfl (Nat.le_of_ble_eq_true rfl) (Nat.le_of_ble_eq_true rfl) ?_
    obtain ⟨j2, hx3, hd4⟩ := Option.bind_eq_some_iff.mp hd; clear hd; have hd := hd4; clear hd4
    refine mr_bast ok_Mo_put rfl hM (N := 32768) (by decide) (Or.inl rfl) hx3 (pc' := 24) rfl (Nat.le_of_ble_eq_true rfl) (Nat.le_of_ble_eq_true rfl) (fun h5 hM6 g8 => ?_)
    have f7 := mF.tr (mF.rf) g8
    refine am_steps ok_Mo_put 2 (x' := (26, [some (.ref 22), some (.int a)], [.ref 22, .ref 22], h5, 0, 0)) rfl (Nat.le_of_ble_eq_true rfl) (Nat.le_of_ble_eq_true rfl) ?_
    refine mr_get ok_Mo_put rfl hM6 (v := .int (s.1 7)) rfl (pc' := 29) rfl (Nat.le_of_ble_eq_true rfl) (Nat.le_of_ble_eq_true rfl) ?_
    refine am_steps ok_Mo_put 2 (x' := (31, [some (.ref 22), some (.int a)], [.int ((s.1 7) + 1), .ref 22], h5, 0, 0)) rfl (Nat.le_of_ble_eq_true rfl) (Nat.le_of_ble_eq_true rfl) ?_
    refine mr_put ok_Mo_put rfl hM6 (by decide) rfl (s' := (mI (mA s 25 j2 (am_bn 2 (Int8.toInt32 (Int32.toInt8 a)))) 7 ((s.1 7) + 1))) (mfs_7 _ _) rfl (pc' := 34) rfl (Nat.le_of_ble_eq_true rfl) (Nat.le_of_ble_eq_true rfl) (fun h9 hM10 g12 => ?_)
    have f11 := mF.tr f7 g12
    cases hd; exact am_ret ok_Mo_put rfl (Nat.le_of_ble_eq_true rfl) (Nat.le_of_ble_eq_true rfl) ⟨rfl, hM10, f11⟩
  · rw [if_neg hc1] at hd
    cases hd; exact am_ret ok_Mo_put rfl (Nat.le_of_ble_eq_true rfl) (Nat.le_of_ble_eq_true rfl) ⟨rfl, hM, (mF.rf)⟩
def d_Mo_putWord (a : Int32) (b : Int32) (c : Int32) (d : Int32) (e : Int32) (s : mS) : Option (mS) := (d_Mo_put a s).bind fun q1 => ((d_Mo_put b q1).bind fun q10 => ((if (c : Int32) ≤ 0 then (some q10) else ((d_Mo_put c q10).bind fun q54 => (some q54))).bind fun (u19 : mS) => ((if (d : Int32) ≤ 0 then (some u19) else ((d_Mo_put d u19).bind fun q44 => (some q44))).bind fun (u26 : mS) => (if (e : Int32) ≤ 0 then (some u26) else ((d_Mo_put e u26).bind fun q34 => (some q34))))))
set_option maxHeartbeats 4000000 in
set_option maxRecDepth 100000 in
theorem k_Mo_putWord (a : Int32) (b : Int32) (c : Int32) (d : Int32) (e : Int32) (s : mS) (h0 : am_H) (hM : RM s h0) (q : mS) (hd : d_Mo_putWord a b c d e s = some q) : am_Me am_Pr none 1 21 0 0 17 [.ref 22, .int a, .int b, .int c, .int d, .int e] h0 (mQv q h0) := by
  refine am_enter (d := hd_Mo_putWord) rfl (by decide +kernel) (Nat.le_of_ble_eq_true rfl) ?_
  show am_S _ _ _ _ _ _ _ (0, [some (.ref 22), some (.int a), some (.int b), some (.int c), some (.int d), some (.int e)], [], h0, 0, 0) _
  unfold d_Mo_putWord at hd
  refine am_steps ok_Mo_putWord 2 (x' := (2, [some (.ref 22), some (.int a), some (.int b), some (.int c), some (.int d), some (.int e)], [.int a, .ref 22], h0, 0, 0)) rfl (Nat.le_of_ble_eq_true rfl) (Nat.le_of_ble_eq_true rfl) ?_
  obtain ⟨q1, hq2, hd3⟩ := Option.bind_eq_some_iff.mp hd; clear hd; have hd := hd3; clear hd3
  refine ar_cv ok_Mo_putWord hk_Mo_put rfl rfl (As := [.int a]) (ad := 22) (rest := []) rfl rfl hM.1 (Nat.le_of_ble_eq_true rfl) (k_Mo_put a s h0 hM q1 hq2) (Nat.le_of_ble_eq_true rfl) (Nat.le_of_ble_eq_true rfl) (Nat.le_of_ble_eq_true rfl) (Nat.le_of_ble_eq_true rfl) (pc' := 5) rfl (fun r4 h6 z5 => ?_)
  obtain ⟨rfl, hM7, g9⟩ := z5
  have f8 := mF.tr (mF.rf) g9
  show am_S _ _ _ _ _ _ _ (5, [some (.ref 22), some (.int a), some (.int b), some (.int c), some (.int d), some (.int e)], [], h6, 0, 0) _
  refine am_steps ok_Mo_putWord 2 (x' := (7, [some (.ref 22), some (.int a), some (.int b), some (.int c), some (.int d), some (.int e)], [.int b, .ref 22], h6, 0, 0)) rfl (Nat.le_of_ble_eq_true rfl) (Nat.le_of_ble_eq_true rfl) ?_
  obtain ⟨q10, hq11, hd12⟩ := Option.bind_eq_some_iff.mp hd; clear hd; have hd := hd12; clear hd12
  refine ar_cv ok_Mo_putWord hk_Mo_put rfl rfl (As := [.int b]) (ad := 22) (rest := []) rfl rfl hM7.1 (Nat.le_of_ble_eq_true rfl) (k_Mo_put b q1 h6 hM7 q10 hq11) (Nat.le_of_ble_eq_true rfl) (Nat.le_of_ble_eq_true rfl) (Nat.le_of_ble_eq_true rfl) (Nat.le_of_ble_eq_true rfl) (pc' := 10) rfl (fun r13 h15 z14 => ?_)
  obtain ⟨rfl, hM16, g18⟩ := z14
  have f17 := mF.tr f8 g18
  show am_S _ _ _ _ _ _ _ (10, [some (.ref 22), some (.int a), some (.int b), some (.int c), some (.int d), some (.int e)], [], h15, 0, 0) _
  refine am_steps ok_Mo_putWord 2 (x' := (if (c : Int32) ≤ 0 then 19 else 14, [some (.ref 22), some (.int a), some (.int b), some (.int c), some (.int d), some (.int e)], [], h15, 0, 0)) rfl (Nat.le_of_ble_eq_true rfl) (Nat.le_of_ble_eq_true rfl) ?_
  obtain ⟨u19, hA21, hB22⟩ := Option.bind_eq_some_iff.mp hd; clear hd
  have K20 : ∀ h' : am_H, RM u19 h' → mF h0 h' → am_S am_Pr none 1 21 0 0 17 (19, [some (.ref 22), none, none, none, some (.int d), some (.int e)], [], h', 0, 0) (mQv q h0) := by
    have hd := hB22
    intro h23 hM24 f25
    refine am_steps ok_Mo_putWord 2 (x' := (if (d : Int32) ≤ 0 then 30 else 24, [some (.ref 22), none, none, none, some (.int d), some (.int e)], [], h23, 0, 0)) rfl (Nat.le_of_ble_eq_true rfl) (Nat.le_of_ble_eq_true rfl) ?_
    obtain ⟨u26, hA28, hB29⟩ := Option.bind_eq_some_iff.mp hd; clear hd
    have K27 : ∀ h' : am_H, RM u26 h' → mF h0 h' → am_S am_Pr none 1 21 0 0 17 (30, [some (.ref 22), none, none, none, none, some (.int e)], [], h', 0, 0) (mQv q h0) := by
      have hd := hB29
      intro h30 hM31 f32
      refine am_steps ok_Mo_putWord 2 (x' := (if (e : Int32) ≤ 0 then 41 else 35, [some (.ref 22), none, none, none, none, some (.int e)], [], h30, 0, 0)) rfl (Nat.le_of_ble_eq_true rfl) (Nat.le_of_ble_eq_true rfl) ?_
      refine am_if (fun hc33 => ?_) (fun hc33 => ?_)
      · rw [if_pos hc33] at hd
        cases hd; exact am_ret ok_Mo_putWord rfl (Nat.le_of_ble_eq_true rfl) (Nat.le_of_ble_eq_true rfl) ⟨rfl, hM31, f32⟩
      · rw [if_neg hc33] at hd
        refine am_steps ok_Mo_putWord 2 (x' := (38, [some (.ref 22), none, none, none, none, some (.int e)], [.int e, .ref 22], h30, 0, 0)) rfl (Nat.le_of_ble_eq_true rfl) (Nat.le_of_ble_eq_true rfl) ?_
        obtain ⟨q34, hq35, hd36⟩ := Option.bind_eq_some_iff.mp hd; clear hd; have hd := hd36; clear hd36
        refine ar_cv ok_Mo_putWord hk_Mo_put rfl rfl (As := [.int e]) (ad := 22) (rest := []) rfl rfl hM31.1 (Nat.le_of_ble_eq_true rfl) (k_Mo_put e u26 h30 hM31 q34 hq35) (Nat.le_of_ble_eq_true rfl) (Nat.le_of_ble_eq_true rfl) (Nat.le_of_ble_eq_true rfl) (Nat.le_of_ble_eq_true rfl) (pc' := 41) rfl (fun r37 h39 z38 => ?_)
        obtain ⟨rfl, hM40, g42⟩ := z38
        have f41 := mF.tr f32 g42
        show am_S _ _ _ _ _ _ _ (41, [some (.ref 22), none, none, none, none, some (.int e)], [], h39, 0, 0) _
        cases hd; exact am_ret ok_Mo_putWord rfl (Nat.le_of_ble_eq_true rfl) (Nat.le_of_ble_eq_true rfl) ⟨rfl, hM40, f41⟩
    clear hB29; have hd := hA28; clear hA28
    refine am_if (fun hc43 => ?_) (fun hc43 => ?_)
    · rw [if_pos hc43] at hd
      refine am_drop 4 ?_
      cases hd; exact K27 h23 hM24 f25
    · rw [if_neg hc43] at hd
      refine am_steps ok_Mo_putWord 2 (x' := (27, [some (.ref 22), none, none, none, some (.int d), some (.int e)], [.int d, .ref 22], h23, 0, 0)) rfl (Nat.le_of_ble_eq_true rfl) (Nat.le_of_ble_eq_true rfl) ?_
      obtain ⟨q44, hq45, hd46⟩ := Option.bind_eq_some_iff.mp hd; clear hd; have hd := hd46; clear hd46
      refine ar_cv ok_Mo_putWord hk_Mo_put rfl rfl (As := [.int d]) (ad := 22) (rest := []) rfl rfl hM24.1 (Nat.le_of_ble_eq_true rfl) (k_Mo_put d u19 h23 hM24 q44 hq45) (Nat.le_of_ble_eq_true rfl) (Nat.le_of_ble_eq_true rfl) (Nat.le_of_ble_eq_true rfl) (Nat.le_of_ble_eq_true rfl) (pc' := 30) rfl (fun r47 h49 z48 => ?_)
      obtain ⟨rfl, hM50, g52⟩ := z48
      have f51 := mF.tr f25 g52
      show am_S _ _ _ _ _ _ _ (30, [some (.ref 22), none, none, none, some (.int d), some (.int e)], [], h49, 0, 0) _
      refine am_drop 4 ?_
      cases hd; exact K27 h49 hM50 f51
  clear hB22; have hd := hA21; clear hA21
  refine am_if (fun hc53 => ?_) (fun hc53 => ?_)
  · rw [if_pos hc53] at hd
    refine am_drop 1 ?_
    refine am_drop 2 ?_
    refine am_drop 3 ?_
    cases hd; exact K20 h15 hM16 f17
  · rw [if_neg hc53] at hd
    refine am_steps ok_Mo_putWord 2 (x' := (16, [some (.ref 22), some (.int a), some (.int b), some (.int c), some (.int d), some (.int e)], [.int c, .ref 22], h15, 0, 0)) rfl (Nat.le_of_ble_eq_true rfl) (Nat.le_of_ble_eq_true rfl) ?_
    obtain ⟨q54, hq55, hd56⟩ := Option.bind_eq_some_iff.mp hd; clear hd; have hd := hd56; clear hd56
    refine ar_cv ok_Mo_putWord hk_Mo_put rfl rfl (As := [.int c]) (ad := 22) (rest := []) rfl rfl hM16.1 (Nat.le_of_ble_eq_true rfl) (k_Mo_put c q10 h15 hM16 q54 hq55) (Nat.le_of_ble_eq_true rfl) (Nat.le_of_ble_eq_true rfl) (Nat.le_of_ble_eq_true rfl) (Nat.le_of_ble_eq_true rfl) (pc' := 19) rfl (fun r57 h59 z58 => ?_)
    obtain ⟨rfl, hM60, g62⟩ := z58
    have f61 := mF.tr f17 g62
    show am_S _ _ _ _ _ _ _ (19, [some (.ref 22), some (.int a), some (.int b), some (.int c), some (.int d), some (.int e)], [], h59, 0, 0) _
    refine am_drop 1 ?_
    refine am_drop 2 ?_
    refine am_drop 3 ?_
    cases hd; exact K20 h59 hM60 f61
def l_Mo_putName_8 : Nat → Int64 → Int32 → mS → Option (mS)
  | 0, _, _, _ => none
  | fu + 1, v1, v4, s => if (v4 : Int32) < 0 then (some s) else ((d_Mo_put (Int64.toInt32 ((v1 >>> (Int32.toInt64 v4 &&& 63)) &&& (Int64.ofNat 255))) s).bind fun q2 => (l_Mo_putName_8 fu v1 (v4 + (-8)) q2))
set_option maxHeartbeats 4000000 in
set_option maxRecDepth 100000 in
theorem L_Mo_putName_8 {Q : Option Value → am_H → Prop} (h0 : am_H) : ∀ (fu : Nat) (v1 : Int64) (v4 : Int32) (s : mS) (h : am_H), RM s h → mF h0 h → ∀ q : mS, l_Mo_putName_8 fu v1 v4 s = some q → (∀ h' : am_H, RM q h' → mF h0 h' → am_S am_Pr none 1 21 0 0 18 (32, [some (.ref 22), some (.long v1), none, none, none], [], h', 0, 0) Q) → am_S am_Pr none 1 21 0 0 18 (8, [some (.ref 22), some (.long v1), none, none, some (.int v4)], [], h, 0, 0) Q := by
  intro fu
  induction fu with
  | zero => intro v1 v4 s h hM f q hd; cases hd
  | succ fu ih =>
    intro v1 v4 s h hM f q hd kk
    unfold l_Mo_putName_8 at hd
    refine am_steps ok_Mo_putName 2 (x' := (if (v4 : Int32) < 0 then 32 else 13, [some (.ref 22), some (.long v1), none, none, some (.int v4)], [], h, 0, 0)) rfl (Nat.le_of_ble_eq_true rfl) (Nat.le_of_ble_eq_true rfl) ?_
    refine am_if (fun hc1 => ?_) (fun hc1 => ?_)
    · rw [if_pos hc1] at hd
      refine am_drop 4 ?_
      cases hd; exact kk h hM f
    · rw [if_neg hc1] at hd
      refine am_steps ok_Mo_putName 7 (x' := (23, [some (.ref 22), some (.long v1), none, none, some (.int v4)], [.int (Int64.toInt32 ((v1 >>> (Int32.toInt64 v4 &&& 63)) &&& (Int64.ofNat 255))), .ref 22], h, 0, 0)) rfl (Nat.le_of_ble_eq_true rfl) (Nat.le_of_ble_eq_true rfl) ?_
      obtain ⟨q2, hq3, hd4⟩ := Option.bind_eq_some_iff.mp hd; clear hd; have hd := hd4; clear hd4
      refine ar_cv ok_Mo_putName hk_Mo_put rfl rfl (As := [.int (Int64.toInt32 ((v1 >>> (Int32.toInt64 v4 &&& 63)) &&& (Int64.ofNat 255)))]) (ad := 22) (rest := []) rfl rfl hM.1 (Nat.le_of_ble_eq_true rfl) (k_Mo_put (Int64.toInt32 ((v1 >>> (Int32.toInt64 v4 &&& 63)) &&& (Int64.ofNat 255))) s h hM q2 hq3) (Nat.le_of_ble_eq_true rfl) (Nat.le_of_ble_eq_true rfl) (Nat.le_of_ble_eq_true rfl) (Nat.le_of_ble_eq_true rfl) (pc' := 26) rfl (fun r5 h7 z6 => ?_)
      obtain ⟨rfl, hM8, g10⟩ := z6
      have f9 := mF.tr f g10
      show am_S _ _ _ _ _ _ _ (26, [some (.ref 22), some (.long v1), none, none, some (.int v4)], [], h7, 0, 0) _
      refine am_steps ok_Mo_putName 2 (x' := (8, [some (.ref 22), some (.long v1), none, none, some (.int (v4 + (-8)))], [], h7, 0, 0)) rfl (Nat.le_of_ble_eq_true rfl) (Nat.le_of_ble_eq_true rfl) ?_
      exact ih v1 (v4 + (-8)) q2 h7 hM8 f9 q hd kk
def d_Mo_putName (a : Int64) (b : Int32) (s : mS) : Option (mS) := (l_Mo_putName_8 100000 a (8 * (b - 1)) s).bind fun q11 => (some q11)
set_option maxHeartbeats 4000000 in
set_option maxRecDepth 100000 in
theorem k_Mo_putName (a : Int64) (b : Int32) (s : mS) (h0 : am_H) (hM : RM s h0) (q : mS) (hd : d_Mo_putName a b s = some q) : am_Me am_Pr none 1 21 0 0 18 [.ref 22, .long a, .int b] h0 (mQv q h0) := by
  refine am_enter (d := hd_Mo_putName) rfl (by decide +kernel) (Nat.le_of_ble_eq_true rfl) ?_
  show am_S _ _ _ _ _ _ _ (0, [some (.ref 22), some (.long a), none, some (.int b), none], [], h0, 0, 0) _
  unfold d_Mo_putName at hd
  refine am_steps ok_Mo_putName 6 (x' := (8, [some (.ref 22), some (.long a), none, some (.int b), some (.int (8 * (b - 1)))], [], h0, 0, 0)) rfl (Nat.le_of_ble_eq_true rfl) (Nat.le_of_ble_eq_true rfl) ?_
  refine am_drop 3 ?_
  obtain ⟨q11, hq12, hd13⟩ := Option.bind_eq_some_iff.mp hd; clear hd; have hd := hd13; clear hd13
  refine L_Mo_putName_8 h0 100000 a (8 * (b - 1)) s h0 hM (mF.rf) q11 hq12 (fun h14 hM15 f16 => ?_)
  show am_S _ _ _ _ _ _ _ (32, [some (.ref 22), some (.long a), none, none, none], [], h14, 0, 0) _
  cases hd; exact am_ret ok_Mo_putName rfl (Nat.le_of_ble_eq_true rfl) (Nat.le_of_ble_eq_true rfl) ⟨rfl, hM15, f16⟩
def l_Mo_putNumber_28 : Nat → Int64 → Int64 → mS → Option (Int64)
  | 0, _, _, _ => none
  | fu + 1, v3, v5, s => if v5 = 0 then none else (if ((lg_cmp (v3 / v5) (Int64.ofNat 9)) : Int32) ≤ 0 then (some v5) else (l_Mo_putNumber_28 fu v3 (v5 * (Int64.ofNat 10)) s))
set_option maxHeartbeats 4000000 in
set_option maxRecDepth 100000 in
theorem L_Mo_putNumber_28 {Q : Option Value → am_H → Prop} (s : mS) (h : am_H) (hM : RM s h) : ∀ (fu : Nat) (v3 : Int64) (v5 : Int64) (q : Int64), l_Mo_putNumber_28 fu v3 v5 s = some q → am_S am_Pr none 1 21 0 0 19 (50, [some (.ref 22), none, none, some (.long v3), none, some (.long q), none, none, none], [], h, 0, 0) Q → am_S am_Pr none 1 21 0 0 19 (28, [some (.ref 22), none, none, some (.long v3), none, some (.long v5), none, none, none], [], h, 0, 0) Q := by
  intro fu
  induction fu with
  | zero => intro v3 v5 q hd; cases hd
  | succ fu ih =>
    intro v3 v5 q hd kk
    unfold l_Mo_putNumber_28 at hd
    refine am_steps ok_Mo_putNumber 2 (x' := (31, [some (.ref 22), none, none, some (.long v3), none, some (.long v5), none, none, none], [.long v5, .long v3], h, 0, 0)) rfl (Nat.le_of_ble_eq_true rfl) (Nat.le_of_ble_eq_true rfl) ?_
    split at hd
    · cases hd
    · rename_i hne12
      refine ar_ldiv ok_Mo_putNumber rfl hne12 (w := (v3 / v5)) rfl (pc' := 32) rfl (Nat.le_of_ble_eq_true rfl) (Nat.le_of_ble_eq_true rfl) ?_
      refine am_steps ok_Mo_putNumber 3 (x' := (if ((lg_cmp (v3 / v5) (Int64.ofNat 9)) : Int32) ≤ 0 then 50 else 39, [some (.ref 22), none, none, some (.long v3), none, some (.long v5), none, none, none], [], h, 0, 0)) rfl (Nat.le_of_ble_eq_true rfl) (Nat.le_of_ble_eq_true rfl) ?_
      refine am_if (fun hc13 => ?_) (fun hc13 => ?_)
      · rw [if_pos hc13] at hd
        cases hd; exact kk
      · rw [if_neg hc13] at hd
        refine am_steps ok_Mo_putNumber 5 (x' := (28, [some (.ref 22), none, none, some (.long v3), none, some (.long (v5 * (Int64.ofNat 10))), none, none, none], [], h, 0, 0)) rfl (Nat.le_of_ble_eq_true rfl) (Nat.le_of_ble_eq_true rfl) ?_
        exact ih v3 (v5 * (Int64.ofNat 10)) q hd kk
def l_Mo_putNumber_54 : Nat → Int64 → Int64 → mS → Option (mS)
  | 0, _, _, _ => none
  | fu + 1, v3, v7, s => if ((lg_cmp v7 0) : Int32) ≤ 0 then (some s) else (if v7 = 0 then none else ((d_Mo_put (Int64.toInt32 ((Int64.ofNat 48) + ((v3 / v7) - (v3 / v7) / (Int64.ofNat 10) * (Int64.ofNat 10)))) s).bind fun q19 => (l_Mo_putNumber_54 fu v3 (v7 / (Int64.ofNat 10)) q19)))
set_option maxHeartbeats 4000000 in
set_option maxRecDepth 100000 in
theorem L_Mo_putNumber_54 {Q : Option Value → am_H → Prop} (h0 : am_H) : ∀ (fu : Nat) (v3 : Int64) (v7 : Int64) (s : mS) (h : am_H), RM s h → mF h0 h → ∀ q : mS, l_Mo_putNumber_54 fu v3 v7 s = some q → (∀ h' : am_H, RM q h' → mF h0 h' → am_S am_Pr none 1 21 0 0 19 (89, [some (.ref 22), none, none, some (.long v3), none, none, none, none, none], [], h', 0, 0) Q) → am_S am_Pr none 1 21 0 0 19 (54, [some (.ref 22), none, none, some (.long v3), none, none, none, some (.long v7), none], [], h, 0, 0) Q := by
  intro fu
  induction fu with
  | zero => intro v3 v7 s h hM f q hd; cases hd
  | succ fu ih =>
    intro v3 v7 s h hM f q hd kk
    unfold l_Mo_putNumber_54 at hd
    refine am_steps ok_Mo_putNumber 4 (x' := (if ((lg_cmp v7 0) : Int32) ≤ 0 then 89 else 61, [some (.ref 22), none, none, some (.long v3), none, none, none, some (.long v7), none], [], h, 0, 0)) rfl (Nat.le_of_ble_eq_true rfl) (Nat.le_of_ble_eq_true rfl) ?_
    refine am_if (fun hc17 => ?_) (fun hc17 => ?_)
    · rw [if_pos hc17] at hd
      refine am_drop 7 ?_
      cases hd; exact kk h hM f
    · rw [if_neg hc17] at hd
      refine am_steps ok_Mo_putNumber 4 (x' := (68, [some (.ref 22), none, none, some (.long v3), none, none, none, some (.long v7), none], [.long v7, .long v3, .long (Int64.ofNat 48), .ref 22], h, 0, 0)) rfl (Nat.le_of_ble_eq_true rfl) (Nat.le_of_ble_eq_true rfl) ?_
      split at hd
      · cases hd
      · rename_i hne18
        refine ar_ldiv ok_Mo_putNumber rfl hne18 (w := (v3 / v7)) rfl (pc' := 69) rfl (Nat.le_of_ble_eq_true rfl) (Nat.le_of_ble_eq_true rfl) ?_
        refine am_steps ok_Mo_putNumber 1 (x' := (72, [some (.ref 22), none, none, some (.long v3), none, none, none, some (.long v7), none], [.long (Int64.ofNat 10), .long (v3 / v7), .long (Int64.ofNat 48), .ref 22], h, 0, 0)) rfl (Nat.le_of_ble_eq_true rfl) (Nat.le_of_ble_eq_true rfl) ?_
        refine ar_lrem ok_Mo_putNumber rfl (by decide +kernel) (w := ((v3 / v7) - (v3 / v7) / (Int64.ofNat 10) * (Int64.ofNat 10))) rfl (pc' := 73) rfl (Nat.le_of_ble_eq_true rfl) (Nat.le_of_ble_eq_true rfl) ?_
        refine am_steps ok_Mo_putNumber 2 (x' := (75, [some (.ref 22), none, none, some (.long v3), none, none, none, some (.long v7), none], [.int (Int64.toInt32 ((Int64.ofNat 48) + ((v3 / v7) - (v3 / v7) / (Int64.ofNat 10) * (Int64.ofNat 10)))), .ref 22], h, 0, 0)) rfl (Nat.le_of_ble_eq_true rfl) (Nat.le_of_ble_eq_true rfl) ?_
        obtain ⟨q19, hq20, hd21⟩ := Option.bind_eq_some_iff.mp hd; clear hd; have hd := hd21; clear hd21
        refine ar_cv ok_Mo_putNumber hk_Mo_put rfl rfl (As := [.int (Int64.toInt32 ((Int64.ofNat 48) + ((v3 / v7) - (v3 / v7) / (Int64.ofNat 10) * (Int64.ofNat 10))))]) (ad := 22) (rest := []) rfl rfl hM.1 (Nat.le_of_ble_eq_true rfl) (k_Mo_put (Int64.toInt32 ((Int64.ofNat 48) + ((v3 / v7) - (v3 / v7) / (Int64.ofNat 10) * (Int64.ofNat 10)))) s h hM q19 hq20) (Nat.le_of_ble_eq_true rfl) (Nat.le_of_ble_eq_true rfl) (Nat.le_of_ble_eq_true rfl) (Nat.le_of_ble_eq_true rfl) (pc' := 78) rfl (fun r22 h24 z23 => ?_)
        obtain ⟨rfl, hM25, g27⟩ := z23
        have f26 := mF.tr f g27
        show am_S _ _ _ _ _ _ _ (78, [some (.ref 22), none, none, some (.long v3), none, none, none, some (.long v7), none], [], h24, 0, 0) _
        refine am_steps ok_Mo_putNumber 2 (x' := (83, [some (.ref 22), none, none, some (.long v3), none, none, none, some (.long v7), none], [.long (Int64.ofNat 10), .long v7], h24, 0, 0)) rfl (Nat.le_of_ble_eq_true rfl) (Nat.le_of_ble_eq_true rfl) ?_
        refine ar_ldiv ok_Mo_putNumber rfl (by decide +kernel) (w := (v7 / (Int64.ofNat 10))) rfl (pc' := 84) rfl (Nat.le_of_ble_eq_true rfl) (Nat.le_of_ble_eq_true rfl) ?_
        refine am_steps ok_Mo_putNumber 2 (x' := (54, [some (.ref 22), none, none, some (.long v3), none, none, none, some (.long (v7 / (Int64.ofNat 10))), none], [], h24, 0, 0)) rfl (Nat.le_of_ble_eq_true rfl) (Nat.le_of_ble_eq_true rfl) ?_
        exact ih v3 (v7 / (Int64.ofNat 10)) q19 h24 hM25 f26 q hd kk
def d_Mo_putNumber (a : Int64) (s : mS) : Option (mS) := (if (0 : Int32) ≤ (lg_cmp a 0) then (some s) else ((d_Mo_put 45 s).bind fun q36 => (some q36))).bind fun (u1 : mS) => ((if (0 : Int32) ≤ (lg_cmp a 0) then (some a) else (some (-a))).bind fun (u8 : Int64) => ((l_Mo_putNumber_28 100000 u8 1 u1).bind fun q14 => ((l_Mo_putNumber_54 100000 u8 q14 u1).bind fun q28 => (some q28))))
set_option maxHeartbeats 4000000 in
set_option maxRecDepth 100000 in
theorem k_Mo_putNumber (a : Int64) (s : mS) (h0 : am_H) (hM : RM s h0) (q : mS) (hd : d_Mo_putNumber a s = some q) : am_Me am_Pr none 1 21 0 0 19 [.ref 22, .long a] h0 (mQv q h0) := by
  refine am_enter (d := hd_Mo_putNumber) rfl (by decide +kernel) (Nat.le_of_ble_eq_true rfl) ?_
  show am_S _ _ _ _ _ _ _ (0, [some (.ref 22), some (.long a), none, none, none, none, none, none, none], [], h0, 0, 0) _
  unfold d_Mo_putNumber at hd
  refine am_steps ok_Mo_putNumber 4 (x' := (if (0 : Int32) ≤ (lg_cmp a 0) then 12 else 6, [some (.ref 22), some (.long a), none, none, none, none, none, none, none], [], h0, 0, 0)) rfl (Nat.le_of_ble_eq_true rfl) (Nat.le_of_ble_eq_true rfl) ?_
  obtain ⟨u1, hA3, hB4⟩ := Option.bind_eq_some_iff.mp hd; clear hd
  have K2 : ∀ h' : am_H, RM u1 h' → mF h0 h' → am_S am_Pr none 1 21 0 0 19 (12, [some (.ref 22), some (.long a), none, none, none, none, none, none, none], [], h', 0, 0) (mQv q h0) := by
    have hd := hB4
    intro h5 hM6 f7
    refine am_steps ok_Mo_putNumber 4 (x' := (if (0 : Int32) ≤ (lg_cmp a 0) then 23 else 18, [some (.ref 22), some (.long a), none, none, none, none, none, none, none], [], h5, 0, 0)) rfl (Nat.le_of_ble_eq_true rfl) (Nat.le_of_ble_eq_true rfl) ?_
    obtain ⟨u8, hA10, hB11⟩ := Option.bind_eq_some_iff.mp hd; clear hd
    have K9 : am_S am_Pr none 1 21 0 0 19 (24, [some (.ref 22), none, none, none, none, none, none, none, none], [.long u8], h5, 0, 0) (mQv q h0) := by
      have hd := hB11
      refine am_steps ok_Mo_putNumber 3 (x' := (28, [some (.ref 22), none, none, some (.long u8), none, some (.long 1), none, none, none], [], h5, 0, 0)) rfl (Nat.le_of_ble_eq_true rfl) (Nat.le_of_ble_eq_true rfl) ?_
      obtain ⟨q14, hq15, hd16⟩ := Option.bind_eq_some_iff.mp hd; clear hd; have hd := hd16; clear hd16
      refine L_Mo_putNumber_28 u1 h5 hM6 100000 u8 1 q14 hq15 ?_
      show am_S _ _ _ _ _ _ _ (50, [some (.ref 22), none, none, some (.long u8), none, some (.long q14), none, none, none], [], h5, 0, 0) _
      refine am_steps ok_Mo_putNumber 2 (x' := (54, [some (.ref 22), none, none, some (.long u8), none, some (.long q14), none, some (.long q14), none], [], h5, 0, 0)) rfl (Nat.le_of_ble_eq_true rfl) (Nat.le_of_ble_eq_true rfl) ?_
      refine am_drop 5 ?_
      obtain ⟨q28, hq29, hd30⟩ := Option.bind_eq_some_iff.mp hd; clear hd; have hd := hd30; clear hd30
      refine L_Mo_putNumber_54 h0 100000 u8 q14 u1 h5 hM6 f7 q28 hq29 (fun h31 hM32 f33 => ?_)
      show am_S _ _ _ _ _ _ _ (89, [some (.ref 22), none, none, some (.long u8), none, none, none, none, none], [], h31, 0, 0) _
      cases hd; exact am_ret ok_Mo_putNumber rfl (Nat.le_of_ble_eq_true rfl) (Nat.le_of_ble_eq_true rfl) ⟨rfl, hM32, f33⟩
    clear hB11; have hd := hA10; clear hA10
    refine am_if (fun hc34 => ?_) (fun hc34 => ?_)
    · rw [if_pos hc34] at hd
      refine am_steps ok_Mo_putNumber 1 (x' := (24, [some (.ref 22), some (.long a), none, none, none, none, none, none, none], [.long a], h5, 0, 0)) rfl (Nat.le_of_ble_eq_true rfl) (Nat.le_of_ble_eq_true rfl) ?_
      refine am_drop 1 ?_
      cases hd; exact K9 
    · rw [if_neg hc34] at hd
      refine am_steps ok_Mo_putNumber 3 (x' := (24, [some (.ref 22), some (.long a), none, none, none, none, none, none, none], [.long (-a)], h5, 0, 0)) rfl (Nat.le_of_ble_eq_true rfl) (Nat.le_of_ble_eq_true rfl) ?_
      refine am_drop 1 ?_
      cases hd; exact K9 
  clear hB4; have hd := hA3; clear hA3
  refine am_if (fun hc35 => ?_) (fun hc35 => ?_)
  · rw [if_pos hc35] at hd
    cases hd; exact K2 h0 hM (mF.rf)
  · rw [if_neg hc35] at hd
    refine am_steps ok_Mo_putNumber 2 (x' := (9, [some (.ref 22), some (.long a), none, none, none, none, none, none, none], [.int 45, .ref 22], h0, 0, 0)) rfl (Nat.le_of_ble_eq_true rfl) (Nat.le_of_ble_eq_true rfl) ?_
    obtain ⟨q36, hq37, hd38⟩ := Option.bind_eq_some_iff.mp hd; clear hd; have hd := hd38; clear hd38
    refine ar_cv ok_Mo_putNumber hk_Mo_put rfl rfl (As := [.int 45]) (ad := 22) (rest := []) rfl rfl hM.1 (Nat.le_of_ble_eq_true rfl) (k_Mo_put 45 s h0 hM q36 hq37) (Nat.le_of_ble_eq_true rfl) (Nat.le_of_ble_eq_true rfl) (Nat.le_of_ble_eq_true rfl) (Nat.le_of_ble_eq_true rfl) (pc' := 12) rfl (fun r39 h41 z40 => ?_)
    obtain ⟨rfl, hM42, g44⟩ := z40
    have f43 := mF.tr (mF.rf) g44
    show am_S _ _ _ _ _ _ _ (12, [some (.ref 22), some (.long a), none, none, none, none, none, none, none], [], h41, 0, 0) _
    cases hd; exact K2 h41 hM42 f43
def l_Mo_fetch_40 : Nat → Int64 → Int32 → Int32 → mS → Option (Int64)
  | 0, _, _, _, _ => none
  | fu + 1, v1, v3, v4, s => if (7 : Int32) ≤ v4 then (some v1) else ((if (v3 : Int32) ≤ v4 then (some 0) else ((am_ix ((s.1 8) + v4) 32768).bind fun j12 => (some ((s.2.2.1 25 j12) &&& 255)))).bind fun (u7 : Int32) => (l_Mo_fetch_40 fu ((v1 <<< (Int32.toInt64 8 &&& 63)) ||| (Int32.toInt64 u7)) v3 (v4 + 1) s))
set_option maxHeartbeats 4000000 in
set_option maxRecDepth 100000 in
theorem L_Mo_fetch_40 {Q : Option Value → am_H → Prop} (s : mS) (h : am_H) (hM : RM s h) : ∀ (fu : Nat) (v1 : Int64) (v3 : Int32) (v4 : Int32) (q : Int64), l_Mo_fetch_40 fu v1 v3 v4 s = some q → am_S am_Pr none 0 0 0 0 20 (86, [some (.ref 22), some (.long q), none, some (.int v3), none], [], h, 0, 0) Q → am_S am_Pr none 0 0 0 0 20 (40, [some (.ref 22), some (.long v1), none, some (.int v3), some (.int v4)], [], h, 0, 0) Q := by
  intro fu
  induction fu with
  | zero => intro v1 v3 v4 q hd; cases hd
  | succ fu ih =>
    intro v1 v3 v4 q hd kk
    unfold l_Mo_fetch_40 at hd
    refine am_steps ok_Mo_fetch 3 (x' := (if (7 : Int32) ≤ v4 then 86 else 47, [some (.ref 22), some (.long v1), none, some (.int v3), some (.int v4)], [], h, 0, 0)) rfl (Nat.le_of_ble_eq_true rfl) (Nat.le_of_ble_eq_true rfl) ?_
    refine am_if (fun hc6 => ?_) (fun hc6 => ?_)
    · rw [if_pos hc6] at hd
      refine am_drop 4 ?_
      cases hd; exact kk
    · rw [if_neg hc6] at hd
      refine am_steps ok_Mo_fetch 6 (x' := (if (v3 : Int32) ≤ v4 then 76 else 57, [some (.ref 22), some (.long v1), none, some (.int v3), some (.int v4)], [.long (v1 <<< (Int32.toInt64 8 &&& 63))], h, 0, 0)) rfl (Nat.le_of_ble_eq_true rfl) (Nat.le_of_ble_eq_true rfl) ?_
      obtain ⟨u7, hA9, hB10⟩ := Option.bind_eq_some_iff.mp hd; clear hd
      have K8 : am_S am_Pr none 0 0 0 0 20 (77, [some (.ref 22), none, none, some (.int v3), some (.int v4)], [.int u7, .long (v1 <<< (Int32.toInt64 8 &&& 63))], h, 0, 0) Q := by
        have hd := hB10
        refine am_steps ok_Mo_fetch 5 (x' := (40, [some (.ref 22), some (.long ((v1 <<< (Int32.toInt64 8 &&& 63)) ||| (Int32.toInt64 u7))), none, some (.int v3), some (.int (v4 + 1))], [], h, 0, 0)) rfl (Nat.le_of_ble_eq_true rfl) (Nat.le_of_ble_eq_true rfl) ?_
        exact ih ((v1 <<< (Int32.toInt64 8 &&& 63)) ||| (Int32.toInt64 u7)) v3 (v4 + 1) q hd kk
      clear hB10; have hd := hA9; clear hA9
      refine am_if (fun hc11 => ?_) (fun hc11 => ?_)
      · rw [if_pos hc11] at hd
        refine am_steps ok_Mo_fetch 1 (x' := (77, [some (.ref 22), some (.long v1), none, some (.int v3), some (.int v4)], [.int 0, .long (v1 <<< (Int32.toInt64 8 &&& 63))], h, 0, 0)) rfl (Nat.le_of_ble_eq_true rfl) (Nat.le_of_ble_eq_true rfl) ?_
        refine am_drop 1 ?_
        cases hd; exact K8 
      · rw [if_neg hc11] at hd
        refine am_steps ok_Mo_fetch 1 (x' := (58, [some (.ref 22), some (.long v1), none, some (.int v3), some (.int v4)], [.ref 22, .long (v1 <<< (Int32.toInt64 8 &&& 63))], h, 0, 0)) rfl (Nat.le_of_ble_eq_true rfl) (Nat.le_of_ble_eq_true rfl) ?_
        refine mr_get ok_Mo_fetch rfl hM (v := .ref 25) rfl (pc' := 61) rfl (Nat.le_of_ble_eq_true rfl) (Nat.le_of_ble_eq_true rfl) ?_
        refine am_steps ok_Mo_fetch 1 (x' := (62, [some (.ref 22), some (.long v1), none, some (.int v3), some (.int v4)], [.ref 22, .ref 25, .long (v1 <<< (Int32.toInt64 8 &&& 63))], h, 0, 0)) rfl (Nat.le_of_ble_eq_true rfl) (Nat.le_of_ble_eq_true rfl) ?_
        refine mr_get ok_Mo_fetch rfl hM (v := .int (s.1 8)) rfl (pc' := 65) rfl (Nat.le_of_ble_eq_true rfl) (Nat.le_of_ble_eq_true rfl) ?_
        refine am_steps ok_Mo_fetch 2 (x' := (68, [some (.ref 22), some (.long v1), none, some (.int v3), some (.int v4)], [.int ((s.1 8) + v4), .ref 25, .long (v1 <<< (Int32.toInt64 8 &&& 63))], h, 0, 0)) rfl (Nat.le_of_ble_eq_true rfl) (Nat.le_of_ble_eq_true rfl) ?_
        obtain ⟨j12, hx13, hd14⟩ := Option.bind_eq_some_iff.mp hd; clear hd; have hd := hd14; clear hd14
        refine mr_bald ok_Mo_fetch rfl hM (N := 32768) (by decide) (Or.inl rfl) hx13 (pc' := 69) rfl (Nat.le_of_ble_eq_true rfl) (Nat.le_of_ble_eq_true rfl) ?_
        refine am_steps ok_Mo_fetch 3 (x' := (77, [some (.ref 22), some (.long v1), none, some (.int v3), some (.int v4)], [.int ((s.2.2.1 25 j12) &&& 255), .long (v1 <<< (Int32.toInt64 8 &&& 63))], h, 0, 0)) rfl (Nat.le_of_ble_eq_true rfl) (Nat.le_of_ble_eq_true rfl) ?_
        refine am_drop 1 ?_
        cases hd; exact K8 
def d_Mo_fetch  (s : mS) : Option (Int64 × mS) := (if (7 : Int32) ≤ ((s.1 7) - (s.1 8)) then (some 7) else (some ((s.1 7) - (s.1 8)))).bind fun (u1 : Int32) => (if ¬ (u1 : Int32) = 0 then ((l_Mo_fetch_40 100000 0 u1 0 s).bind fun q15 => (some ((((Int32.toInt64 u1) <<< (Int32.toInt64 56 &&& 63)) ||| q15), (mI s 8 ((s.1 8) + u1))))) else (some (0, s)))
set_option maxHeartbeats 4000000 in
set_option maxRecDepth 100000 in
theorem k_Mo_fetch  (s : mS) (h0 : am_H) (hM : RM s h0) (q : Int64 × mS) (hd : d_Mo_fetch  s = some q) : am_Me am_Pr none 0 0 0 0 20 [.ref 22] h0 (mQr (.long q.1) q.2 h0) := by
  refine am_enter (d := hd_Mo_fetch) rfl (by decide +kernel) (Nat.le_of_ble_eq_true rfl) ?_
  show am_S _ _ _ _ _ _ _ (0, [some (.ref 22), none, none, none, none], [], h0, 0, 0) _
  unfold d_Mo_fetch at hd
  refine am_steps ok_Mo_fetch 3 (x' := (3, [some (.ref 22), some (.long 0), none, none, none], [.ref 22], h0, 0, 0)) rfl (Nat.le_of_ble_eq_true rfl) (Nat.le_of_ble_eq_true rfl) ?_
  refine mr_get ok_Mo_fetch rfl hM (v := .int (s.1 7)) rfl (pc' := 6) rfl (Nat.le_of_ble_eq_true rfl) (Nat.le_of_ble_eq_true rfl) ?_
  refine am_steps ok_Mo_fetch 1 (x' := (7, [some (.ref 22), some (.long 0), none, none, none], [.ref 22, .int (s.1 7)], h0, 0, 0)) rfl (Nat.le_of_ble_eq_true rfl) (Nat.le_of_ble_eq_true rfl) ?_
  refine mr_get ok_Mo_fetch rfl hM (v := .int (s.1 8)) rfl (pc' := 10) rfl (Nat.le_of_ble_eq_true rfl) (Nat.le_of_ble_eq_true rfl) ?_
  refine am_steps ok_Mo_fetch 3 (x' := (if (7 : Int32) ≤ ((s.1 7) - (s.1 8)) then 28 else 16, [some (.ref 22), some (.long 0), none, none, none], [], h0, 0, 0)) rfl (Nat.le_of_ble_eq_true rfl) (Nat.le_of_ble_eq_true rfl) ?_
  obtain ⟨u1, hA3, hB4⟩ := Option.bind_eq_some_iff.mp hd; clear hd
  have K2 : am_S am_Pr none 0 0 0 0 20 (30, [some (.ref 22), some (.long 0), none, none, none], [.int u1], h0, 0, 0) (mQr (.long q.1) q.2 h0) := by
    have hd := hB4
    refine am_steps ok_Mo_fetch 3 (x' := (if ¬ (u1 : Int32) = 0 then 37 else 35, [some (.ref 22), some (.long 0), none, some (.int u1), none], [], h0, 0, 0)) rfl (Nat.le_of_ble_eq_true rfl) (Nat.le_of_ble_eq_true rfl) ?_
    refine am_if (fun hc5 => ?_) (fun hc5 => ?_)
    · rw [if_pos hc5] at hd
      refine am_steps ok_Mo_fetch 2 (x' := (40, [some (.ref 22), some (.long 0), none, some (.int u1), some (.int 0)], [], h0, 0, 0)) rfl (Nat.le_of_ble_eq_true rfl) (Nat.le_of_ble_eq_true rfl) ?_
      obtain ⟨q15, hq16, hd17⟩ := Option.bind_eq_some_iff.mp hd; clear hd; have hd := hd17; clear hd17
      refine L_Mo_fetch_40 s h0 hM 100000 0 u1 0 q15 hq16 ?_
      show am_S _ _ _ _ _ _ _ (86, [some (.ref 22), some (.long q15), none, some (.int u1), none], [], h0, 0, 0) _
      refine am_steps ok_Mo_fetch 2 (x' := (88, [some (.ref 22), some (.long q15), none, some (.int u1), none], [.ref 22, .ref 22], h0, 0, 0)) rfl (Nat.le_of_ble_eq_true rfl) (Nat.le_of_ble_eq_true rfl) ?_
      refine mr_get ok_Mo_fetch rfl hM (v := .int (s.1 8)) rfl (pc' := 91) rfl (Nat.le_of_ble_eq_true rfl) (Nat.le_of_ble_eq_true rfl) ?_
      refine am_steps ok_Mo_fetch 2 (x' := (93, [some (.ref 22), some (.long q15), none, some (.int u1), none], [.int ((s.1 8) + u1), .ref 22], h0, 0, 0)) rfl (Nat.le_of_ble_eq_true rfl) (Nat.le_of_ble_eq_true rfl) ?_
      refine mr_put ok_Mo_fetch rfl hM (by decide) rfl (s' := (mI s 8 ((s.1 8) + u1))) (mfs_8 _ _) rfl (pc' := 96) rfl (Nat.le_of_ble_eq_true rfl) (Nat.le_of_ble_eq_true rfl) (fun h18 hM19 g21 => ?_)
      have f20 := mF.tr (mF.rf) g21
      refine am_steps ok_Mo_fetch 6 (x' := (103, [some (.ref 22), some (.long q15), none, some (.int u1), none], [.long (((Int32.toInt64 u1) <<< (Int32.toInt64 56 &&& 63)) ||| q15)], h18, 0, 0)) rfl (Nat.le_of_ble_eq_true rfl) (Nat.le_of_ble_eq_true rfl) ?_
      cases hd; exact am_ret ok_Mo_fetch rfl (Nat.le_of_ble_eq_true rfl) (Nat.le_of_ble_eq_true rfl) ⟨rfl, hM19, f20⟩
    · rw [if_neg hc5] at hd
      refine am_steps ok_Mo_fetch 1 (x' := (36, [some (.ref 22), some (.long 0), none, some (.int u1), none], [.long 0], h0, 0, 0)) rfl (Nat.le_of_ble_eq_true rfl) (Nat.le_of_ble_eq_true rfl) ?_
      cases hd; exact am_ret ok_Mo_fetch rfl (Nat.le_of_ble_eq_true rfl) (Nat.le_of_ble_eq_true rfl) ⟨rfl, hM, (mF.rf)⟩
  clear hB4; have hd := hA3; clear hA3
  refine am_if (fun hc22 => ?_) (fun hc22 => ?_)
  · rw [if_pos hc22] at hd
    refine am_steps ok_Mo_fetch 1 (x' := (30, [some (.ref 22), some (.long 0), none, none, none], [.int 7], h0, 0, 0)) rfl (Nat.le_of_ble_eq_true rfl) (Nat.le_of_ble_eq_true rfl) ?_
    cases hd; exact K2 
  · rw [if_neg hc22] at hd
    refine am_steps ok_Mo_fetch 1 (x' := (17, [some (.ref 22), some (.long 0), none, none, none], [.ref 22], h0, 0, 0)) rfl (Nat.le_of_ble_eq_true rfl) (Nat.le_of_ble_eq_true rfl) ?_
    refine mr_get ok_Mo_fetch rfl hM (v := .int (s.1 7)) rfl (pc' := 20) rfl (Nat.le_of_ble_eq_true rfl) (Nat.le_of_ble_eq_true rfl) ?_
    refine am_steps ok_Mo_fetch 1 (x' := (21, [some (.ref 22), some (.long 0), none, none, none], [.ref 22, .int (s.1 7)], h0, 0, 0)) rfl (Nat.le_of_ble_eq_true rfl) (Nat.le_of_ble_eq_true rfl) ?_
    refine mr_get ok_Mo_fetch rfl hM (v := .int (s.1 8)) rfl (pc' := 24) rfl (Nat.le_of_ble_eq_true rfl) (Nat.le_of_ble_eq_true rfl) ?_
    refine am_steps ok_Mo_fetch 2 (x' := (30, [some (.ref 22), some (.long 0), none, none, none], [.int ((s.1 7) - (s.1 8))], h0, 0, 0)) rfl (Nat.le_of_ble_eq_true rfl) (Nat.le_of_ble_eq_true rfl) ?_
    cases hd; exact K2 
def d_Mo_silence  (s : mS) : Option (mS) := some (mI (mI s 7 0) 8 0)
set_option maxHeartbeats 4000000 in
set_option maxRecDepth 100000 in
theorem k_Mo_silence  (s : mS) (h0 : am_H) (hM : RM s h0) (q : mS) (hd : d_Mo_silence  s = some q) : am_Me am_Pr none 0 0 0 0 21 [.ref 22] h0 (mQv q h0) := by
  refine am_enter (d := hd_Mo_silence) rfl (by decide +kernel) (Nat.le_of_ble_eq_true rfl) ?_
  show am_S _ _ _ _ _ _ _ (0, [some (.ref 22)], [], h0, 0, 0) _
  unfold d_Mo_silence at hd
  refine am_steps ok_Mo_silence 2 (x' := (2, [some (.ref 22)], [.int 0, .ref 22], h0, 0, 0)) rfl (Nat.le_of_ble_eq_true rfl) (Nat.le_of_ble_eq_true rfl) ?_
  refine mr_put ok_Mo_silence rfl hM (by decide) rfl (s' := (mI s 7 0)) (mfs_7 _ _) rfl (pc' := 5) rfl (Nat.le_of_ble_eq_true rfl) (Nat.le_of_ble_eq_true rfl) (fun h1 hM2 g4 => ?_)
  have f3 := mF.tr (mF.rf) g4
  refine am_steps ok_Mo_silence 2 (x' := (7, [some (.ref 22)], [.int 0, .ref 22], h1, 0, 0)) rfl (Nat.le_of_ble_eq_true rfl) (Nat.le_of_ble_eq_true rfl) ?_
  refine mr_put ok_Mo_silence rfl hM2 (by decide) rfl (s' := (mI (mI s 7 0) 8 0)) (mfs_8 _ _) rfl (pc' := 10) rfl (Nat.le_of_ble_eq_true rfl) (Nat.le_of_ble_eq_true rfl) (fun h5 hM6 g8 => ?_)
  have f7 := mF.tr f3 g8
  cases hd; exact am_ret ok_Mo_silence rfl (Nat.le_of_ble_eq_true rfl) (Nat.le_of_ble_eq_true rfl) ⟨rfl, hM6, f7⟩
def d_Mo_isDigit (a : Int32) : Option (Int32) := if (a : Int32) < 48 then (some 0) else (if (57 : Int32) < a then (some 0) else (some 1))
set_option maxHeartbeats 4000000 in
set_option maxRecDepth 100000 in
theorem k_Mo_isDigit (a : Int32) (h0 : am_H) (q : Int32) (hd : d_Mo_isDigit a = some q) : am_Me am_Pr none 0 0 0 0 22 [.int a] h0 (am_is (some (.int q)) h0) := by
  refine am_enter (d := hd_Mo_isDigit) rfl (by decide +kernel) (Nat.le_of_ble_eq_true rfl) ?_
  show am_S _ _ _ _ _ _ _ (0, [some (.int a)], [], h0, 0, 0) _
  unfold d_Mo_isDigit at hd
  refine am_steps ok_Mo_isDigit 3 (x' := (if (a : Int32) < 48 then 16 else 6, [some (.int a)], [], h0, 0, 0)) rfl (Nat.le_of_ble_eq_true rfl) (Nat.le_of_ble_eq_true rfl) ?_
  refine am_if (fun hc1 => ?_) (fun hc1 => ?_)
  · rw [if_pos hc1] at hd
    refine am_steps ok_Mo_isDigit 1 (x' := (17, [some (.int a)], [.int 0], h0, 0, 0)) rfl (Nat.le_of_ble_eq_true rfl) (Nat.le_of_ble_eq_true rfl) ?_
    cases hd; exact am_ret ok_Mo_isDigit rfl (Nat.le_of_ble_eq_true rfl) (Nat.le_of_ble_eq_true rfl) ⟨rfl, rfl⟩
  · rw [if_neg hc1] at hd
    refine am_steps ok_Mo_isDigit 3 (x' := (if (57 : Int32) < a then 16 else 12, [some (.int a)], [], h0, 0, 0)) rfl (Nat.le_of_ble_eq_true rfl) (Nat.le_of_ble_eq_true rfl) ?_
    refine am_if (fun hc2 => ?_) (fun hc2 => ?_)
    · rw [if_pos hc2] at hd
      refine am_steps ok_Mo_isDigit 1 (x' := (17, [some (.int a)], [.int 0], h0, 0, 0)) rfl (Nat.le_of_ble_eq_true rfl) (Nat.le_of_ble_eq_true rfl) ?_
      cases hd; exact am_ret ok_Mo_isDigit rfl (Nat.le_of_ble_eq_true rfl) (Nat.le_of_ble_eq_true rfl) ⟨rfl, rfl⟩
    · rw [if_neg hc2] at hd
      refine am_steps ok_Mo_isDigit 2 (x' := (17, [some (.int a)], [.int 1], h0, 0, 0)) rfl (Nat.le_of_ble_eq_true rfl) (Nat.le_of_ble_eq_true rfl) ?_
      cases hd; exact am_ret ok_Mo_isDigit rfl (Nat.le_of_ble_eq_true rfl) (Nat.le_of_ble_eq_true rfl) ⟨rfl, rfl⟩
def d_Mo_isSign (a : Int32) : Option (Int32) := (d_Mo_isDigit a).bind fun q1 => (if ¬ (q1 : Int32) = 0 then (some 1) else (if (a : Int32) < 65 then (some 0) else (if (90 : Int32) < a then (some 0) else (some 1))))
set_option maxHeartbeats 4000000 in
set_option maxRecDepth 100000 in
theorem k_Mo_isSign (a : Int32) (h0 : am_H) (q : Int32) (hd : d_Mo_isSign a = some q) : am_Me am_Pr none 1 20 0 0 23 [.int a] h0 (am_is (some (.int q)) h0) := by
  refine am_enter (d := hd_Mo_isSign) rfl (by decide +kernel) (Nat.le_of_ble_eq_true rfl) ?_
  show am_S _ _ _ _ _ _ _ (0, [some (.int a)], [], h0, 0, 0) _
  unfold d_Mo_isSign at hd
  refine am_steps ok_Mo_isSign 1 (x' := (1, [some (.int a)], [.int a], h0, 0, 0)) rfl (Nat.le_of_ble_eq_true rfl) (Nat.le_of_ble_eq_true rfl) ?_
  obtain ⟨q1, hq2, hd3⟩ := Option.bind_eq_some_iff.mp hd; clear hd; have hd := hd3; clear hd3
  refine am_call ok_Mo_isSign hk_Mo_isDigit rfl (args' := [.int a]) (rest := []) rfl (k_Mo_isDigit a h0 q1 hq2) (Nat.le_of_ble_eq_true rfl) (Nat.le_of_ble_eq_true rfl) (Nat.le_of_ble_eq_true rfl) (Nat.le_of_ble_eq_true rfl) (fun r4 h6 z5 => ?_)
  obtain ⟨z10, z11⟩ := z5; subst z10; rw [z11]
  show am_S _ _ _ _ _ _ _ (4, [some (.int a)], [.int q1], h0, 0, 0) _
  refine am_steps ok_Mo_isSign 1 (x' := (if ¬ (q1 : Int32) = 0 then 19 else 7, [some (.int a)], [], h0, 0, 0)) rfl (Nat.le_of_ble_eq_true rfl) (Nat.le_of_ble_eq_true rfl) ?_
  refine am_if (fun hc12 => ?_) (fun hc12 => ?_)
  · rw [if_pos hc12] at hd
    refine am_steps ok_Mo_isSign 2 (x' := (24, [some (.int a)], [.int 1], h0, 0, 0)) rfl (Nat.le_of_ble_eq_true rfl) (Nat.le_of_ble_eq_true rfl) ?_
    cases hd; exact am_ret ok_Mo_isSign rfl (Nat.le_of_ble_eq_true rfl) (Nat.le_of_ble_eq_true rfl) ⟨rfl, rfl⟩
  · rw [if_neg hc12] at hd
    refine am_steps ok_Mo_isSign 3 (x' := (if (a : Int32) < 65 then 23 else 13, [some (.int a)], [], h0, 0, 0)) rfl (Nat.le_of_ble_eq_true rfl) (Nat.le_of_ble_eq_true rfl) ?_
    refine am_if (fun hc13 => ?_) (fun hc13 => ?_)
    · rw [if_pos hc13] at hd
      refine am_steps ok_Mo_isSign 1 (x' := (24, [some (.int a)], [.int 0], h0, 0, 0)) rfl (Nat.le_of_ble_eq_true rfl) (Nat.le_of_ble_eq_true rfl) ?_
      cases hd; exact am_ret ok_Mo_isSign rfl (Nat.le_of_ble_eq_true rfl) (Nat.le_of_ble_eq_true rfl) ⟨rfl, rfl⟩
    · rw [if_neg hc13] at hd
      refine am_steps ok_Mo_isSign 3 (x' := (if (90 : Int32) < a then 23 else 19, [some (.int a)], [], h0, 0, 0)) rfl (Nat.le_of_ble_eq_true rfl) (Nat.le_of_ble_eq_true rfl) ?_
      refine am_if (fun hc14 => ?_) (fun hc14 => ?_)
      · rw [if_pos hc14] at hd
        refine am_steps ok_Mo_isSign 1 (x' := (24, [some (.int a)], [.int 0], h0, 0, 0)) rfl (Nat.le_of_ble_eq_true rfl) (Nat.le_of_ble_eq_true rfl) ?_
        cases hd; exact am_ret ok_Mo_isSign rfl (Nat.le_of_ble_eq_true rfl) (Nat.le_of_ble_eq_true rfl) ⟨rfl, rfl⟩
      · rw [if_neg hc14] at hd
        refine am_steps ok_Mo_isSign 2 (x' := (24, [some (.int a)], [.int 1], h0, 0, 0)) rfl (Nat.le_of_ble_eq_true rfl) (Nat.le_of_ble_eq_true rfl) ?_
        cases hd; exact am_ret ok_Mo_isSign rfl (Nat.le_of_ble_eq_true rfl) (Nat.le_of_ble_eq_true rfl) ⟨rfl, rfl⟩
def l_Mo_areDigits_5 : Nat → Int32 → Int32 → Int32 → Int32 → mS → Option (Int32)
  | 0, _, _, _, _, _ => none
  | fu + 1, v1, v2, v3, v4, s => if ((v1 + v2) : Int32) ≤ v4 then (some v3) else ((if (v3 : Int32) = 0 then (some 0) else ((am_ix v4 400).bind fun j7 => ((d_Mo_isDigit (s.2.2.1 24 j7)).bind fun q10 => (if (q10 : Int32) = 0 then (some 0) else (some 1))))).bind fun (u2 : Int32) => (l_Mo_areDigits_5 fu v1 v2 u2 (v4 + 1) s))
set_option maxHeartbeats 4000000 in
set_option maxRecDepth 100000 in
theorem L_Mo_areDigits_5 {Q : Option Value → am_H → Prop} (s : mS) (h : am_H) (hM : RM s h) : ∀ (fu : Nat) (v1 : Int32) (v2 : Int32) (v3 : Int32) (v4 : Int32) (q : Int32), l_Mo_areDigits_5 fu v1 v2 v3 v4 s = some q → am_S am_Pr none 1 20 0 0 24 (42, [some (.ref 22), some (.int v1), some (.int v2), some (.int q), none], [], h, 0, 0) Q → am_S am_Pr none 1 20 0 0 24 (5, [some (.ref 22), some (.int v1), some (.int v2), some (.int v3), some (.int v4)], [], h, 0, 0) Q := by
  intro fu
  induction fu with
  | zero => intro v1 v2 v3 v4 q hd; cases hd
  | succ fu ih =>
    intro v1 v2 v3 v4 q hd kk
    unfold l_Mo_areDigits_5 at hd
    refine am_steps ok_Mo_areDigits 5 (x' := (if ((v1 + v2) : Int32) ≤ v4 then 42 else 13, [some (.ref 22), some (.int v1), some (.int v2), some (.int v3), some (.int v4)], [], h, 0, 0)) rfl (Nat.le_of_ble_eq_true rfl) (Nat.le_of_ble_eq_true rfl) ?_
    refine am_if (fun hc1 => ?_) (fun hc1 => ?_)
    · rw [if_pos hc1] at hd
      refine am_drop 4 ?_
      cases hd; exact kk
    · rw [if_neg hc1] at hd
      refine am_steps ok_Mo_areDigits 2 (x' := (if (v3 : Int32) = 0 then 34 else 17, [some (.ref 22), some (.int v1), some (.int v2), some (.int v3), some (.int v4)], [], h, 0, 0)) rfl (Nat.le_of_ble_eq_true rfl) (Nat.le_of_ble_eq_true rfl) ?_
      obtain ⟨u2, hA4, hB5⟩ := Option.bind_eq_some_iff.mp hd; clear hd
      have K3 : am_S am_Pr none 1 20 0 0 24 (35, [some (.ref 22), some (.int v1), some (.int v2), none, some (.int v4)], [.int u2], h, 0, 0) Q := by
        have hd := hB5
        refine am_steps ok_Mo_areDigits 3 (x' := (5, [some (.ref 22), some (.int v1), some (.int v2), some (.int u2), some (.int (v4 + 1))], [], h, 0, 0)) rfl (Nat.le_of_ble_eq_true rfl) (Nat.le_of_ble_eq_true rfl) ?_
        exact ih v1 v2 u2 (v4 + 1) q hd kk
      clear hB5; have hd := hA4; clear hA4
      refine am_if (fun hc6 => ?_) (fun hc6 => ?_)
      · rw [if_pos hc6] at hd
        refine am_steps ok_Mo_areDigits 1 (x' := (35, [some (.ref 22), some (.int v1), some (.int v2), some (.int v3), some (.int v4)], [.int 0], h, 0, 0)) rfl (Nat.le_of_ble_eq_true rfl) (Nat.le_of_ble_eq_true rfl) ?_
        refine am_drop 3 ?_
        cases hd; exact K3 
      · rw [if_neg hc6] at hd
        refine am_steps ok_Mo_areDigits 1 (x' := (18, [some (.ref 22), some (.int v1), some (.int v2), some (.int v3), some (.int v4)], [.ref 22], h, 0, 0)) rfl (Nat.le_of_ble_eq_true rfl) (Nat.le_of_ble_eq_true rfl) ?_
        refine mr_get ok_Mo_areDigits rfl hM (v := .ref 24) rfl (pc' := 21) rfl (Nat.le_of_ble_eq_true rfl) (Nat.le_of_ble_eq_true rfl) ?_
        refine am_steps ok_Mo_areDigits 1 (x' := (23, [some (.ref 22), some (.int v1), some (.int v2), some (.int v3), some (.int v4)], [.int v4, .ref 24], h, 0, 0)) rfl (Nat.le_of_ble_eq_true rfl) (Nat.le_of_ble_eq_true rfl) ?_
        obtain ⟨j7, hx8, hd9⟩ := Option.bind_eq_some_iff.mp hd; clear hd; have hd := hd9; clear hd9
        refine mr_bald ok_Mo_areDigits rfl hM (N := 400) (by decide) (Or.inl rfl) hx8 (pc' := 24) rfl (Nat.le_of_ble_eq_true rfl) (Nat.le_of_ble_eq_true rfl) ?_
        obtain ⟨q10, hq11, hd12⟩ := Option.bind_eq_some_iff.mp hd; clear hd; have hd := hd12; clear hd12
        refine am_call ok_Mo_areDigits hk_Mo_isDigit rfl (args' := [.int (s.2.2.1 24 j7)]) (rest := []) rfl (k_Mo_isDigit (s.2.2.1 24 j7) h q10 hq11) (Nat.le_of_ble_eq_true rfl) (Nat.le_of_ble_eq_true rfl) (Nat.le_of_ble_eq_true rfl) (Nat.le_of_ble_eq_true rfl) (fun r13 h15 z14 => ?_)
        obtain ⟨z19, z20⟩ := z14; subst z19; rw [z20]
        show am_S _ _ _ _ _ _ _ (27, [some (.ref 22), some (.int v1), some (.int v2), some (.int v3), some (.int v4)], [.int q10], h, 0, 0) _
        refine am_steps ok_Mo_areDigits 1 (x' := (if (q10 : Int32) = 0 then 34 else 30, [some (.ref 22), some (.int v1), some (.int v2), some (.int v3), some (.int v4)], [], h, 0, 0)) rfl (Nat.le_of_ble_eq_true rfl) (Nat.le_of_ble_eq_true rfl) ?_
        refine am_if (fun hc21 => ?_) (fun hc21 => ?_)
        · rw [if_pos hc21] at hd
          refine am_steps ok_Mo_areDigits 1 (x' := (35, [some (.ref 22), some (.int v1), some (.int v2), some (.int v3), some (.int v4)], [.int 0], h, 0, 0)) rfl (Nat.le_of_ble_eq_true rfl) (Nat.le_of_ble_eq_true rfl) ?_
          refine am_drop 3 ?_
          cases hd; exact K3 
        · rw [if_neg hc21] at hd
          refine am_steps ok_Mo_areDigits 2 (x' := (35, [some (.ref 22), some (.int v1), some (.int v2), some (.int v3), some (.int v4)], [.int 1], h, 0, 0)) rfl (Nat.le_of_ble_eq_true rfl) (Nat.le_of_ble_eq_true rfl) ?_
          refine am_drop 3 ?_
          cases hd; exact K3 
def d_Mo_areDigits (a : Int32) (b : Int32) (s : mS) : Option (Int32) := (l_Mo_areDigits_5 100000 a b 1 a s).bind fun q22 => (if q22 = 0 ∨ q22 = 1 then some q22 else none)
set_option maxHeartbeats 4000000 in
set_option maxRecDepth 100000 in
theorem k_Mo_areDigits (a : Int32) (b : Int32) (s : mS) (h0 : am_H) (hM : RM s h0) (q : Int32) (hd : d_Mo_areDigits a b s = some q) : am_Me am_Pr none 1 20 0 0 24 [.ref 22, .int a, .int b] h0 (am_is (some (.int q)) h0) := by
  refine am_enter (d := hd_Mo_areDigits) rfl (by decide +kernel) (Nat.le_of_ble_eq_true rfl) ?_
  show am_S _ _ _ _ _ _ _ (0, [some (.ref 22), some (.int a), some (.int b), none, none], [], h0, 0, 0) _
  unfold d_Mo_areDigits at hd
  refine am_steps ok_Mo_areDigits 4 (x' := (5, [some (.ref 22), some (.int a), some (.int b), some (.int 1), some (.int a)], [], h0, 0, 0)) rfl (Nat.le_of_ble_eq_true rfl) (Nat.le_of_ble_eq_true rfl) ?_
  obtain ⟨q22, hq23, hd24⟩ := Option.bind_eq_some_iff.mp hd; clear hd; have hd := hd24; clear hd24
  refine L_Mo_areDigits_5 s h0 hM 100000 a b 1 a q22 hq23 ?_
  show am_S _ _ _ _ _ _ _ (42, [some (.ref 22), some (.int a), some (.int b), some (.int q22), none], [], h0, 0, 0) _
  refine am_steps ok_Mo_areDigits 1 (x' := (43, [some (.ref 22), some (.int a), some (.int b), some (.int q22), none], [.int q22], h0, 0, 0)) rfl (Nat.le_of_ble_eq_true rfl) (Nat.le_of_ble_eq_true rfl) ?_
  split at hd
  · rename_i hz; cases hd; exact am_ret ok_Mo_areDigits (if_pos hz) (Nat.le_of_ble_eq_true rfl) (Nat.le_of_ble_eq_true rfl) ⟨rfl, rfl⟩
  · cases hd
def l_Mo_number_5 : Nat → Int32 → Int32 → Int64 → Int32 → mS → Option (Int64)
  | 0, _, _, _, _, _ => none
  | fu + 1, v1, v2, v3, v5, s => if ((v1 + v2) : Int32) ≤ v5 then (some v3) else ((am_ix v5 400).bind fun j2 => (l_Mo_number_5 fu v1 v2 ((((Int64.ofNat 10) * v3) + (Int32.toInt64 (s.2.2.1 24 j2))) - (Int64.ofNat 48)) (v5 + 1) s))
set_option maxHeartbeats 4000000 in
set_option maxRecDepth 100000 in
theorem L_Mo_number_5 {Q : Option Value → am_H → Prop} (s : mS) (h : am_H) (hM : RM s h) : ∀ (fu : Nat) (v1 : Int32) (v2 : Int32) (v3 : Int64) (v5 : Int32) (q : Int64), l_Mo_number_5 fu v1 v2 v3 v5 s = some q → am_S am_Pr none 0 0 0 0 25 (38, [some (.ref 22), some (.int v1), some (.int v2), some (.long q), none, none], [], h, 0, 0) Q → am_S am_Pr none 0 0 0 0 25 (5, [some (.ref 22), some (.int v1), some (.int v2), some (.long v3), none, some (.int v5)], [], h, 0, 0) Q := by
  intro fu
  induction fu with
  | zero => intro v1 v2 v3 v5 q hd; cases hd
  | succ fu ih =>
    intro v1 v2 v3 v5 q hd kk
    unfold l_Mo_number_5 at hd
    refine am_steps ok_Mo_number 5 (x' := (if ((v1 + v2) : Int32) ≤ v5 then 38 else 13, [some (.ref 22), some (.int v1), some (.int v2), some (.long v3), none, some (.int v5)], [], h, 0, 0)) rfl (Nat.le_of_ble_eq_true rfl) (Nat.le_of_ble_eq_true rfl) ?_
    refine am_if (fun hc1 => ?_) (fun hc1 => ?_)
    · rw [if_pos hc1] at hd
      refine am_drop 5 ?_
      cases hd; exact kk
    · rw [if_neg hc1] at hd
      refine am_steps ok_Mo_number 4 (x' := (19, [some (.ref 22), some (.int v1), some (.int v2), some (.long v3), none, some (.int v5)], [.ref 22, .long ((Int64.ofNat 10) * v3)], h, 0, 0)) rfl (Nat.le_of_ble_eq_true rfl) (Nat.le_of_ble_eq_true rfl) ?_
      refine mr_get ok_Mo_number rfl hM (v := .ref 24) rfl (pc' := 22) rfl (Nat.le_of_ble_eq_true rfl) (Nat.le_of_ble_eq_true rfl) ?_
      refine am_steps ok_Mo_number 1 (x' := (24, [some (.ref 22), some (.int v1), some (.int v2), some (.long v3), none, some (.int v5)], [.int v5, .ref 24, .long ((Int64.ofNat 10) * v3)], h, 0, 0)) rfl (Nat.le_of_ble_eq_true rfl) (Nat.le_of_ble_eq_true rfl) ?_
      obtain ⟨j2, hx3, hd4⟩ := Option.bind_eq_some_iff.mp hd; clear hd; have hd := hd4; clear hd4
      refine mr_bald ok_Mo_number rfl hM (N := 400) (by decide) (Or.inl rfl) hx3 (pc' := 25) rfl (Nat.le_of_ble_eq_true rfl) (Nat.le_of_ble_eq_true rfl) ?_
      refine am_steps ok_Mo_number 7 (x' := (5, [some (.ref 22), some (.int v1), some (.int v2), some (.long ((((Int64.ofNat 10) * v3) + (Int32.toInt64 (s.2.2.1 24 j2))) - (Int64.ofNat 48))), none, some (.int (v5 + 1))], [], h, 0, 0)) rfl (Nat.le_of_ble_eq_true rfl) (Nat.le_of_ble_eq_true rfl) ?_
      exact ih v1 v2 ((((Int64.ofNat 10) * v3) + (Int32.toInt64 (s.2.2.1 24 j2))) - (Int64.ofNat 48)) (v5 + 1) q hd kk
def d_Mo_number (a : Int32) (b : Int32) (s : mS) : Option (Int64) := (l_Mo_number_5 100000 a b 0 a s).bind fun q5 => (some q5)
set_option maxHeartbeats 4000000 in
set_option maxRecDepth 100000 in
theorem k_Mo_number (a : Int32) (b : Int32) (s : mS) (h0 : am_H) (hM : RM s h0) (q : Int64) (hd : d_Mo_number a b s = some q) : am_Me am_Pr none 0 0 0 0 25 [.ref 22, .int a, .int b] h0 (am_is (some (.long q)) h0) := by
  refine am_enter (d := hd_Mo_number) rfl (by decide +kernel) (Nat.le_of_ble_eq_true rfl) ?_
  show am_S _ _ _ _ _ _ _ (0, [some (.ref 22), some (.int a), some (.int b), none, none, none], [], h0, 0, 0) _
  unfold d_Mo_number at hd
  refine am_steps ok_Mo_number 4 (x' := (5, [some (.ref 22), some (.int a), some (.int b), some (.long 0), none, some (.int a)], [], h0, 0, 0)) rfl (Nat.le_of_ble_eq_true rfl) (Nat.le_of_ble_eq_true rfl) ?_
  obtain ⟨q5, hq6, hd7⟩ := Option.bind_eq_some_iff.mp hd; clear hd; have hd := hd7; clear hd7
  refine L_Mo_number_5 s h0 hM 100000 a b 0 a q5 hq6 ?_
  show am_S _ _ _ _ _ _ _ (38, [some (.ref 22), some (.int a), some (.int b), some (.long q5), none, none], [], h0, 0, 0) _
  refine am_steps ok_Mo_number 1 (x' := (39, [some (.ref 22), some (.int a), some (.int b), some (.long q5), none, none], [.long q5], h0, 0, 0)) rfl (Nat.le_of_ble_eq_true rfl) (Nat.le_of_ble_eq_true rfl) ?_
  cases hd; exact am_ret ok_Mo_number rfl (Nat.le_of_ble_eq_true rfl) (Nat.le_of_ble_eq_true rfl) ⟨rfl, rfl⟩
def l_Mo_packed_5 : Nat → Int32 → Int32 → Int64 → Int32 → mS → Option (Int64)
  | 0, _, _, _, _, _ => none
  | fu + 1, v1, v2, v3, v5, s => if ((v1 + v2) : Int32) ≤ v5 then (some v3) else ((am_ix v5 400).bind fun j2 => (l_Mo_packed_5 fu v1 v2 ((v3 <<< (Int32.toInt64 8 &&& 63)) ||| (Int32.toInt64 (s.2.2.1 24 j2))) (v5 + 1) s))
set_option maxHeartbeats 4000000 in
set_option maxRecDepth 100000 in
theorem L_Mo_packed_5 {Q : Option Value → am_H → Prop} (s : mS) (h : am_H) (hM : RM s h) : ∀ (fu : Nat) (v1 : Int32) (v2 : Int32) (v3 : Int64) (v5 : Int32) (q : Int64), l_Mo_packed_5 fu v1 v2 v3 v5 s = some q → am_S am_Pr none 0 0 0 0 26 (33, [some (.ref 22), some (.int v1), some (.int v2), some (.long q), none, none], [], h, 0, 0) Q → am_S am_Pr none 0 0 0 0 26 (5, [some (.ref 22), some (.int v1), some (.int v2), some (.long v3), none, some (.int v5)], [], h, 0, 0) Q := by
  intro fu
  induction fu with
  | zero => intro v1 v2 v3 v5 q hd; cases hd
  | succ fu ih =>
    intro v1 v2 v3 v5 q hd kk
    unfold l_Mo_packed_5 at hd
    refine am_steps ok_Mo_packed 5 (x' := (if ((v1 + v2) : Int32) ≤ v5 then 33 else 13, [some (.ref 22), some (.int v1), some (.int v2), some (.long v3), none, some (.int v5)], [], h, 0, 0)) rfl (Nat.le_of_ble_eq_true rfl) (Nat.le_of_ble_eq_true rfl) ?_
    refine am_if (fun hc1 => ?_) (fun hc1 => ?_)
    · rw [if_pos hc1] at hd
      refine am_drop 5 ?_
      cases hd; exact kk
    · rw [if_neg hc1] at hd
      refine am_steps ok_Mo_packed 4 (x' := (18, [some (.ref 22), some (.int v1), some (.int v2), some (.long v3), none, some (.int v5)], [.ref 22, .long (v3 <<< (Int32.toInt64 8 &&& 63))], h, 0, 0)) rfl (Nat.le_of_ble_eq_true rfl) (Nat.le_of_ble_eq_true rfl) ?_
      refine mr_get ok_Mo_packed rfl hM (v := .ref 24) rfl (pc' := 21) rfl (Nat.le_of_ble_eq_true rfl) (Nat.le_of_ble_eq_true rfl) ?_
      refine am_steps ok_Mo_packed 1 (x' := (23, [some (.ref 22), some (.int v1), some (.int v2), some (.long v3), none, some (.int v5)], [.int v5, .ref 24, .long (v3 <<< (Int32.toInt64 8 &&& 63))], h, 0, 0)) rfl (Nat.le_of_ble_eq_true rfl) (Nat.le_of_ble_eq_true rfl) ?_
      obtain ⟨j2, hx3, hd4⟩ := Option.bind_eq_some_iff.mp hd; clear hd; have hd := hd4; clear hd4
      refine mr_bald ok_Mo_packed rfl hM (N := 400) (by decide) (Or.inl rfl) hx3 (pc' := 24) rfl (Nat.le_of_ble_eq_true rfl) (Nat.le_of_ble_eq_true rfl) ?_
      refine am_steps ok_Mo_packed 5 (x' := (5, [some (.ref 22), some (.int v1), some (.int v2), some (.long ((v3 <<< (Int32.toInt64 8 &&& 63)) ||| (Int32.toInt64 (s.2.2.1 24 j2)))), none, some (.int (v5 + 1))], [], h, 0, 0)) rfl (Nat.le_of_ble_eq_true rfl) (Nat.le_of_ble_eq_true rfl) ?_
      exact ih v1 v2 ((v3 <<< (Int32.toInt64 8 &&& 63)) ||| (Int32.toInt64 (s.2.2.1 24 j2))) (v5 + 1) q hd kk
def d_Mo_packed (a : Int32) (b : Int32) (s : mS) : Option (Int64) := (l_Mo_packed_5 100000 a b 0 a s).bind fun q5 => (some q5)
set_option maxHeartbeats 4000000 in
set_option maxRecDepth 100000 in
theorem k_Mo_packed (a : Int32) (b : Int32) (s : mS) (h0 : am_H) (hM : RM s h0) (q : Int64) (hd : d_Mo_packed a b s = some q) : am_Me am_Pr none 0 0 0 0 26 [.ref 22, .int a, .int b] h0 (am_is (some (.long q)) h0) := by
  refine am_enter (d := hd_Mo_packed) rfl (by decide +kernel) (Nat.le_of_ble_eq_true rfl) ?_
  show am_S _ _ _ _ _ _ _ (0, [some (.ref 22), some (.int a), some (.int b), none, none, none], [], h0, 0, 0) _
  unfold d_Mo_packed at hd
  refine am_steps ok_Mo_packed 4 (x' := (5, [some (.ref 22), some (.int a), some (.int b), some (.long 0), none, some (.int a)], [], h0, 0, 0)) rfl (Nat.le_of_ble_eq_true rfl) (Nat.le_of_ble_eq_true rfl) ?_
  obtain ⟨q5, hq6, hd7⟩ := Option.bind_eq_some_iff.mp hd; clear hd; have hd := hd7; clear hd7
  refine L_Mo_packed_5 s h0 hM 100000 a b 0 a q5 hq6 ?_
  show am_S _ _ _ _ _ _ _ (33, [some (.ref 22), some (.int a), some (.int b), some (.long q5), none, none], [], h0, 0, 0) _
  refine am_steps ok_Mo_packed 1 (x' := (34, [some (.ref 22), some (.int a), some (.int b), some (.long q5), none, none], [.long q5], h0, 0, 0)) rfl (Nat.le_of_ble_eq_true rfl) (Nat.le_of_ble_eq_true rfl) ?_
  cases hd; exact am_ret ok_Mo_packed rfl (Nat.le_of_ble_eq_true rfl) (Nat.le_of_ble_eq_true rfl) ⟨rfl, rfl⟩
def l_Mo_memberAt_10 : Nat → Int64 → Int32 → mS → Option (Int32)
  | 0, _, _, _ => none
  | fu + 1, v2, v4, s => if ((s.1 10) : Int32) ≤ v4 then (some (-1)) else ((am_ix v4 256).bind fun j13 => (if ¬ ((lg_cmp (s.2.2.2 26 j13) v2) : Int32) = 0 then (l_Mo_memberAt_10 fu v2 (v4 + 1) s) else (some v4)))
set_option maxHeartbeats 4000000 in
set_option maxRecDepth 100000 in
theorem L_Mo_memberAt_10 (s : mS) (h : am_H) (hM : RM s h) : ∀ (fu : Nat) (v2 : Int64) (v4 : Int32) (q : Int32), l_Mo_memberAt_10 fu v2 v4 s = some q → am_S am_Pr none 1 25 0 0 27 (10, [some (.ref 22), none, some (.long v2), none, some (.int v4)], [], h, 0, 0) (am_is (some (.int q)) h) := by
  intro fu
  induction fu with
  | zero => intro v2 v4 q hd; cases hd
  | succ fu ih =>
    intro v2 v4 q hd
    unfold l_Mo_memberAt_10 at hd
    refine am_steps ok_Mo_memberAt 2 (x' := (13, [some (.ref 22), none, some (.long v2), none, some (.int v4)], [.ref 22, .int v4], h, 0, 0)) rfl (Nat.le_of_ble_eq_true rfl) (Nat.le_of_ble_eq_true rfl) ?_
    refine mr_get ok_Mo_memberAt rfl hM (v := .int (s.1 10)) rfl (pc' := 16) rfl (Nat.le_of_ble_eq_true rfl) (Nat.le_of_ble_eq_true rfl) ?_
    refine am_steps ok_Mo_memberAt 1 (x' := (if ((s.1 10) : Int32) ≤ v4 then 40 else 19, [some (.ref 22), none, some (.long v2), none, some (.int v4)], [], h, 0, 0)) rfl (Nat.le_of_ble_eq_true rfl) (Nat.le_of_ble_eq_true rfl) ?_
    refine am_if (fun hc12 => ?_) (fun hc12 => ?_)
    · rw [if_pos hc12] at hd
      refine am_steps ok_Mo_memberAt 1 (x' := (41, [some (.ref 22), none, some (.long v2), none, some (.int v4)], [.int (-1)], h, 0, 0)) rfl (Nat.le_of_ble_eq_true rfl) (Nat.le_of_ble_eq_true rfl) ?_
      cases hd; exact am_ret ok_Mo_memberAt rfl (Nat.le_of_ble_eq_true rfl) (Nat.le_of_ble_eq_true rfl) ⟨rfl, rfl⟩
    · rw [if_neg hc12] at hd
      refine am_steps ok_Mo_memberAt 1 (x' := (20, [some (.ref 22), none, some (.long v2), none, some (.int v4)], [.ref 22], h, 0, 0)) rfl (Nat.le_of_ble_eq_true rfl) (Nat.le_of_ble_eq_true rfl) ?_
      refine mr_get ok_Mo_memberAt rfl hM (v := .ref 26) rfl (pc' := 23) rfl (Nat.le_of_ble_eq_true rfl) (Nat.le_of_ble_eq_true rfl) ?_
      refine am_steps ok_Mo_memberAt 1 (x' := (25, [some (.ref 22), none, some (.long v2), none, some (.int v4)], [.int v4, .ref 26], h, 0, 0)) rfl (Nat.le_of_ble_eq_true rfl) (Nat.le_of_ble_eq_true rfl) ?_
      obtain ⟨j13, hx14, hd15⟩ := Option.bind_eq_some_iff.mp hd; clear hd; have hd := hd15; clear hd15
      refine mr_lald ok_Mo_memberAt rfl hM (N := 256) (by decide) hx14 (pc' := 26) rfl (Nat.le_of_ble_eq_true rfl) (Nat.le_of_ble_eq_true rfl) ?_
      refine am_steps ok_Mo_memberAt 3 (x' := (if ¬ ((lg_cmp (s.2.2.2 26 j13) v2) : Int32) = 0 then 34 else 31, [some (.ref 22), none, some (.long v2), none, some (.int v4)], [], h, 0, 0)) rfl (Nat.le_of_ble_eq_true rfl) (Nat.le_of_ble_eq_true rfl) ?_
      refine am_if (fun hc16 => ?_) (fun hc16 => ?_)
      · rw [if_pos hc16] at hd
        refine am_steps ok_Mo_memberAt 2 (x' := (10, [some (.ref 22), none, some (.long v2), none, some (.int (v4 + 1))], [], h, 0, 0)) rfl (Nat.le_of_ble_eq_true rfl) (Nat.le_of_ble_eq_true rfl) ?_
        exact ih v2 (v4 + 1) q hd
      · rw [if_neg hc16] at hd
        refine am_steps ok_Mo_memberAt 1 (x' := (33, [some (.ref 22), none, some (.long v2), none, some (.int v4)], [.int v4], h, 0, 0)) rfl (Nat.le_of_ble_eq_true rfl) (Nat.le_of_ble_eq_true rfl) ?_
        cases hd; exact am_ret ok_Mo_memberAt rfl (Nat.le_of_ble_eq_true rfl) (Nat.le_of_ble_eq_true rfl) ⟨rfl, rfl⟩
def d_Mo_memberAt (a : Int32) (s : mS) : Option (Int32) := (d_Mo_packed a 4 s).bind fun q1 => (l_Mo_memberAt_10 100000 q1 0 s)
set_option maxHeartbeats 4000000 in
set_option maxRecDepth 100000 in
theorem k_Mo_memberAt (a : Int32) (s : mS) (h0 : am_H) (hM : RM s h0) (q : Int32) (hd : d_Mo_memberAt a s = some q) : am_Me am_Pr none 1 25 0 0 27 [.ref 22, .int a] h0 (am_is (some (.int q)) h0) := by
  refine am_enter (d := hd_Mo_memberAt) rfl (by decide +kernel) (Nat.le_of_ble_eq_true rfl) ?_
  show am_S _ _ _ _ _ _ _ (0, [some (.ref 22), some (.int a), none, none, none], [], h0, 0, 0) _
  unfold d_Mo_memberAt at hd
  refine am_steps ok_Mo_memberAt 3 (x' := (3, [some (.ref 22), some (.int a), none, none, none], [.int 4, .int a, .ref 22], h0, 0, 0)) rfl (Nat.le_of_ble_eq_true rfl) (Nat.le_of_ble_eq_true rfl) ?_
  obtain ⟨q1, hq2, hd3⟩ := Option.bind_eq_some_iff.mp hd; clear hd; have hd := hd3; clear hd3
  refine ar_cv ok_Mo_memberAt hk_Mo_packed rfl rfl (As := [.int a, .int 4]) (ad := 22) (rest := []) rfl rfl hM.1 (Nat.le_of_ble_eq_true rfl) (k_Mo_packed a 4 s h0 hM q1 hq2) (Nat.le_of_ble_eq_true rfl) (Nat.le_of_ble_eq_true rfl) (Nat.le_of_ble_eq_true rfl) (Nat.le_of_ble_eq_true rfl) (pc' := 6) rfl (fun r4 h6 z5 => ?_)
  obtain ⟨z10, z11⟩ := z5; subst z10; rw [z11]
  show am_S _ _ _ _ _ _ _ (6, [some (.ref 22), some (.int a), none, none, none], [.long q1], h0, 0, 0) _
  refine am_steps ok_Mo_memberAt 3 (x' := (10, [some (.ref 22), some (.int a), some (.long q1), none, some (.int 0)], [], h0, 0, 0)) rfl (Nat.le_of_ble_eq_true rfl) (Nat.le_of_ble_eq_true rfl) ?_
  refine am_drop 1 ?_
  exact L_Mo_memberAt_10 s h0 hM 100000 q1 0 q hd
def l_Mo_assetAt_10 : Nat → Int64 → Int32 → mS → Option (Int32)
  | 0, _, _, _ => none
  | fu + 1, v2, v4, s => if ((s.1 15) : Int32) ≤ v4 then (some (-1)) else ((am_ix v4 64).bind fun j13 => (if ¬ ((lg_cmp (s.2.2.2 27 j13) v2) : Int32) = 0 then (l_Mo_assetAt_10 fu v2 (v4 + 1) s) else (some v4)))
set_option maxHeartbeats 4000000 in
set_option maxRecDepth 100000 in
theorem L_Mo_assetAt_10 (s : mS) (h : am_H) (hM : RM s h) : ∀ (fu : Nat) (v2 : Int64) (v4 : Int32) (q : Int32), l_Mo_assetAt_10 fu v2 v4 s = some q → am_S am_Pr none 1 25 0 0 28 (10, [some (.ref 22), none, some (.long v2), none, some (.int v4)], [], h, 0, 0) (am_is (some (.int q)) h) := by
  intro fu
  induction fu with
  | zero => intro v2 v4 q hd; cases hd
  | succ fu ih =>
    intro v2 v4 q hd
    unfold l_Mo_assetAt_10 at hd
    refine am_steps ok_Mo_assetAt 2 (x' := (13, [some (.ref 22), none, some (.long v2), none, some (.int v4)], [.ref 22, .int v4], h, 0, 0)) rfl (Nat.le_of_ble_eq_true rfl) (Nat.le_of_ble_eq_true rfl) ?_
    refine mr_get ok_Mo_assetAt rfl hM (v := .int (s.1 15)) rfl (pc' := 16) rfl (Nat.le_of_ble_eq_true rfl) (Nat.le_of_ble_eq_true rfl) ?_
    refine am_steps ok_Mo_assetAt 1 (x' := (if ((s.1 15) : Int32) ≤ v4 then 40 else 19, [some (.ref 22), none, some (.long v2), none, some (.int v4)], [], h, 0, 0)) rfl (Nat.le_of_ble_eq_true rfl) (Nat.le_of_ble_eq_true rfl) ?_
    refine am_if (fun hc12 => ?_) (fun hc12 => ?_)
    · rw [if_pos hc12] at hd
      refine am_steps ok_Mo_assetAt 1 (x' := (41, [some (.ref 22), none, some (.long v2), none, some (.int v4)], [.int (-1)], h, 0, 0)) rfl (Nat.le_of_ble_eq_true rfl) (Nat.le_of_ble_eq_true rfl) ?_
      cases hd; exact am_ret ok_Mo_assetAt rfl (Nat.le_of_ble_eq_true rfl) (Nat.le_of_ble_eq_true rfl) ⟨rfl, rfl⟩
    · rw [if_neg hc12] at hd
      refine am_steps ok_Mo_assetAt 1 (x' := (20, [some (.ref 22), none, some (.long v2), none, some (.int v4)], [.ref 22], h, 0, 0)) rfl (Nat.le_of_ble_eq_true rfl) (Nat.le_of_ble_eq_true rfl) ?_
      refine mr_get ok_Mo_assetAt rfl hM (v := .ref 27) rfl (pc' := 23) rfl (Nat.le_of_ble_eq_true rfl) (Nat.le_of_ble_eq_true rfl) ?_
      refine am_steps ok_Mo_assetAt 1 (x' := (25, [some (.ref 22), none, some (.long v2), none, some (.int v4)], [.int v4, .ref 27], h, 0, 0)) rfl (Nat.le_of_ble_eq_true rfl) (Nat.le_of_ble_eq_true rfl) ?_
      obtain ⟨j13, hx14, hd15⟩ := Option.bind_eq_some_iff.mp hd; clear hd; have hd := hd15; clear hd15
      refine mr_lald ok_Mo_assetAt rfl hM (N := 64) (by decide) hx14 (pc' := 26) rfl (Nat.le_of_ble_eq_true rfl) (Nat.le_of_ble_eq_true rfl) ?_
      refine am_steps ok_Mo_assetAt 3 (x' := (if ¬ ((lg_cmp (s.2.2.2 27 j13) v2) : Int32) = 0 then 34 else 31, [some (.ref 22), none, some (.long v2), none, some (.int v4)], [], h, 0, 0)) rfl (Nat.le_of_ble_eq_true rfl) (Nat.le_of_ble_eq_true rfl) ?_
      refine am_if (fun hc16 => ?_) (fun hc16 => ?_)
      · rw [if_pos hc16] at hd
        refine am_steps ok_Mo_assetAt 2 (x' := (10, [some (.ref 22), none, some (.long v2), none, some (.int (v4 + 1))], [], h, 0, 0)) rfl (Nat.le_of_ble_eq_true rfl) (Nat.le_of_ble_eq_true rfl) ?_
        exact ih v2 (v4 + 1) q hd
      · rw [if_neg hc16] at hd
        refine am_steps ok_Mo_assetAt 1 (x' := (33, [some (.ref 22), none, some (.long v2), none, some (.int v4)], [.int v4], h, 0, 0)) rfl (Nat.le_of_ble_eq_true rfl) (Nat.le_of_ble_eq_true rfl) ?_
        cases hd; exact am_ret ok_Mo_assetAt rfl (Nat.le_of_ble_eq_true rfl) (Nat.le_of_ble_eq_true rfl) ⟨rfl, rfl⟩
def d_Mo_assetAt (a : Int32) (s : mS) : Option (Int32) := (d_Mo_packed a 3 s).bind fun q1 => (l_Mo_assetAt_10 100000 q1 0 s)
set_option maxHeartbeats 4000000 in
set_option maxRecDepth 100000 in
theorem k_Mo_assetAt (a : Int32) (s : mS) (h0 : am_H) (hM : RM s h0) (q : Int32) (hd : d_Mo_assetAt a s = some q) : am_Me am_Pr none 1 25 0 0 28 [.ref 22, .int a] h0 (am_is (some (.int q)) h0) := by
  refine am_enter (d := hd_Mo_assetAt) rfl (by decide +kernel) (Nat.le_of_ble_eq_true rfl) ?_
  show am_S _ _ _ _ _ _ _ (0, [some (.ref 22), some (.int a), none, none, none], [], h0, 0, 0) _
  unfold d_Mo_assetAt at hd
  refine am_steps ok_Mo_assetAt 3 (x' := (3, [some (.ref 22), some (.int a), none, none, none], [.int 3, .int a, .ref 22], h0, 0, 0)) rfl (Nat.le_of_ble_eq_true rfl) (Nat.le_of_ble_eq_true rfl) ?_
  obtain ⟨q1, hq2, hd3⟩ := Option.bind_eq_some_iff.mp hd; clear hd; have hd := hd3; clear hd3
  refine ar_cv ok_Mo_assetAt hk_Mo_packed rfl rfl (As := [.int a, .int 3]) (ad := 22) (rest := []) rfl rfl hM.1 (Nat.le_of_ble_eq_true rfl) (k_Mo_packed a 3 s h0 hM q1 hq2) (Nat.le_of_ble_eq_true rfl) (Nat.le_of_ble_eq_true rfl) (Nat.le_of_ble_eq_true rfl) (Nat.le_of_ble_eq_true rfl) (pc' := 6) rfl (fun r4 h6 z5 => ?_)
  obtain ⟨z10, z11⟩ := z5; subst z10; rw [z11]
  show am_S _ _ _ _ _ _ _ (6, [some (.ref 22), some (.int a), none, none, none], [.long q1], h0, 0, 0) _
  refine am_steps ok_Mo_assetAt 3 (x' := (10, [some (.ref 22), some (.int a), some (.long q1), none, some (.int 0)], [], h0, 0, 0)) rfl (Nat.le_of_ble_eq_true rfl) (Nat.le_of_ble_eq_true rfl) ?_
  refine am_drop 1 ?_
  exact L_Mo_assetAt_10 s h0 hM 100000 q1 0 q hd
def l_Mo_findKind_7 : Nat → Int32 → mS → Option (mS)
  | 0, _, _ => none
  | fu + 1, v1, s => if (15 : Int32) ≤ v1 then (some s) else ((am_ix 0 400).bind fun j6 => ((am_ix (3 * v1) 45).bind fun j9 => ((if ¬ ((s.2.2.1 24 j6) : Int32) = (am_names.getD j9 0) then (some s) else ((am_ix 1 400).bind fun j20 => ((am_ix ((3 * v1) + 1) 45).bind fun j23 => (if ¬ ((s.2.2.1 24 j20) : Int32) = (am_names.getD j23 0) then (some s) else ((am_ix 2 400).bind fun j27 => ((am_ix ((3 * v1) + 2) 45).bind fun j30 => (if ¬ ((s.2.2.1 24 j27) : Int32) = (am_names.getD j30 0) then (some s) else (some (mI s 4 v1))))))))).bind fun (u12 : mS) => (l_Mo_findKind_7 fu (v1 + 1) u12))))
set_option maxHeartbeats 4000000 in
set_option maxRecDepth 100000 in
theorem L_Mo_findKind_7 {Q : Option Value → am_H → Prop} (h0 : am_H) : ∀ (fu : Nat) (v1 : Int32) (s : mS) (h : am_H), RM s h → mF h0 h → ∀ q : mS, l_Mo_findKind_7 fu v1 s = some q → (∀ h' : am_H, RM q h' → mF h0 h' → am_S am_Pr none 0 0 0 0 29 (76, [some (.ref 22), none], [], h', 0, 0) Q) → am_S am_Pr none 0 0 0 0 29 (7, [some (.ref 22), some (.int v1)], [], h, 0, 0) Q := by
  intro fu
  induction fu with
  | zero => intro v1 s h hM f q hd; cases hd
  | succ fu ih =>
    intro v1 s h hM f q hd kk
    unfold l_Mo_findKind_7 at hd
    refine am_steps ok_Mo_findKind 3 (x' := (if (15 : Int32) ≤ v1 then 76 else 13, [some (.ref 22), some (.int v1)], [], h, 0, 0)) rfl (Nat.le_of_ble_eq_true rfl) (Nat.le_of_ble_eq_true rfl) ?_
    refine am_if (fun hc5 => ?_) (fun hc5 => ?_)
    · rw [if_pos hc5] at hd
      refine am_drop 1 ?_
      cases hd; exact kk h hM f
    · rw [if_neg hc5] at hd
      refine am_steps ok_Mo_findKind 1 (x' := (14, [some (.ref 22), some (.int v1)], [.ref 22], h, 0, 0)) rfl (Nat.le_of_ble_eq_true rfl) (Nat.le_of_ble_eq_true rfl) ?_
      refine mr_get ok_Mo_findKind rfl hM (v := .ref 24) rfl (pc' := 17) rfl (Nat.le_of_ble_eq_true rfl) (Nat.le_of_ble_eq_true rfl) ?_
      refine am_steps ok_Mo_findKind 1 (x' := (18, [some (.ref 22), some (.int v1)], [.int 0, .ref 24], h, 0, 0)) rfl (Nat.le_of_ble_eq_true rfl) (Nat.le_of_ble_eq_true rfl) ?_
      obtain ⟨j6, hx7, hd8⟩ := Option.bind_eq_some_iff.mp hd; clear hd; have hd := hd8; clear hd8
      refine mr_bald ok_Mo_findKind rfl hM (N := 400) (by decide) (Or.inl rfl) hx7 (pc' := 19) rfl (Nat.le_of_ble_eq_true rfl) (Nat.le_of_ble_eq_true rfl) ?_
      refine am_steps ok_Mo_findKind 4 (x' := (25, [some (.ref 22), some (.int v1)], [.int (3 * v1), .ref (am_M + 2), .int (s.2.2.1 24 j6)], h, 0, 0)) rfl (Nat.le_of_ble_eq_true rfl) (Nat.le_of_ble_eq_true rfl) ?_
      obtain ⟨j9, hx10, hd11⟩ := Option.bind_eq_some_iff.mp hd; clear hd; have hd := hd11; clear hd11
      refine ao_iald (d0 := hd_Mo_findKind) rfl (by decide +kernel) (t := 1) rfl (N := 45) hx10 (v := (am_names.getD j9 0)) rfl (pc' := 26) rfl ?_
      refine am_steps ok_Mo_findKind 1 (x' := (if ¬ ((s.2.2.1 24 j6) : Int32) = (am_names.getD j9 0) then 70 else 29, [some (.ref 22), some (.int v1)], [], h, 0, 0)) rfl (Nat.le_of_ble_eq_true rfl) (Nat.le_of_ble_eq_true rfl) ?_
      obtain ⟨u12, hA14, hB15⟩ := Option.bind_eq_some_iff.mp hd; clear hd
      have K13 : ∀ h' : am_H, RM u12 h' → mF h0 h' → am_S am_Pr none 0 0 0 0 29 (70, [some (.ref 22), some (.int v1)], [], h', 0, 0) Q := by
        have hd := hB15
        intro h16 hM17 f18
        refine am_steps ok_Mo_findKind 2 (x' := (7, [some (.ref 22), some (.int (v1 + 1))], [], h16, 0, 0)) rfl (Nat.le_of_ble_eq_true rfl) (Nat.le_of_ble_eq_true rfl) ?_
        exact ih (v1 + 1) u12 h16 hM17 f18 q hd kk
      clear hB15; have hd := hA14; clear hA14
      refine am_if (fun hc19 => ?_) (fun hc19 => ?_)
      · rw [if_pos hc19] at hd
        cases hd; exact K13 h hM f
      · rw [if_neg hc19] at hd
        refine am_steps ok_Mo_findKind 1 (x' := (30, [some (.ref 22), some (.int v1)], [.ref 22], h, 0, 0)) rfl (Nat.le_of_ble_eq_true rfl) (Nat.le_of_ble_eq_true rfl) ?_
        refine mr_get ok_Mo_findKind rfl hM (v := .ref 24) rfl (pc' := 33) rfl (Nat.le_of_ble_eq_true rfl) (Nat.le_of_ble_eq_true rfl) ?_
        refine am_steps ok_Mo_findKind 1 (x' := (34, [some (.ref 22), some (.int v1)], [.int 1, .ref 24], h, 0, 0)) rfl (Nat.le_of_ble_eq_true rfl) (Nat.le_of_ble_eq_true rfl) ?_
        obtain ⟨j20, hx21, hd22⟩ := Option.bind_eq_some_iff.mp hd; clear hd; have hd := hd22; clear hd22
        refine mr_bald ok_Mo_findKind rfl hM (N := 400) (by decide) (Or.inl rfl) hx21 (pc' := 35) rfl (Nat.le_of_ble_eq_true rfl) (Nat.le_of_ble_eq_true rfl) ?_
        refine am_steps ok_Mo_findKind 6 (x' := (43, [some (.ref 22), some (.int v1)], [.int ((3 * v1) + 1), .ref (am_M + 2), .int (s.2.2.1 24 j20)], h, 0, 0)) rfl (Nat.le_of_ble_eq_true rfl) (Nat.le_of_ble_eq_true rfl) ?_
        obtain ⟨j23, hx24, hd25⟩ := Option.bind_eq_some_iff.mp hd; clear hd; have hd := hd25; clear hd25
        refine ao_iald (d0 := hd_Mo_findKind) rfl (by decide +kernel) (t := 1) rfl (N := 45) hx24 (v := (am_names.getD j23 0)) rfl (pc' := 44) rfl ?_
        refine am_steps ok_Mo_findKind 1 (x' := (if ¬ ((s.2.2.1 24 j20) : Int32) = (am_names.getD j23 0) then 70 else 47, [some (.ref 22), some (.int v1)], [], h, 0, 0)) rfl (Nat.le_of_ble_eq_true rfl) (Nat.le_of_ble_eq_true rfl) ?_
        refine am_if (fun hc26 => ?_) (fun hc26 => ?_)
        · rw [if_pos hc26] at hd
          cases hd; exact K13 h hM f
        · rw [if_neg hc26] at hd
          refine am_steps ok_Mo_findKind 1 (x' := (48, [some (.ref 22), some (.int v1)], [.ref 22], h, 0, 0)) rfl (Nat.le_of_ble_eq_true rfl) (Nat.le_of_ble_eq_true rfl) ?_
          refine mr_get ok_Mo_findKind rfl hM (v := .ref 24) rfl (pc' := 51) rfl (Nat.le_of_ble_eq_true rfl) (Nat.le_of_ble_eq_true rfl) ?_
          refine am_steps ok_Mo_findKind 1 (x' := (52, [some (.ref 22), some (.int v1)], [.int 2, .ref 24], h, 0, 0)) rfl (Nat.le_of_ble_eq_true rfl) (Nat.le_of_ble_eq_true rfl) ?_
          obtain ⟨j27, hx28, hd29⟩ := Option.bind_eq_some_iff.mp hd; clear hd; have hd := hd29; clear hd29
          refine mr_bald ok_Mo_findKind rfl hM (N := 400) (by decide) (Or.inl rfl) hx28 (pc' := 53) rfl (Nat.le_of_ble_eq_true rfl) (Nat.le_of_ble_eq_true rfl) ?_
          refine am_steps ok_Mo_findKind 6 (x' := (61, [some (.ref 22), some (.int v1)], [.int ((3 * v1) + 2), .ref (am_M + 2), .int (s.2.2.1 24 j27)], h, 0, 0)) rfl (Nat.le_of_ble_eq_true rfl) (Nat.le_of_ble_eq_true rfl) ?_
          obtain ⟨j30, hx31, hd32⟩ := Option.bind_eq_some_iff.mp hd; clear hd; have hd := hd32; clear hd32
          refine ao_iald (d0 := hd_Mo_findKind) rfl (by decide +kernel) (t := 1) rfl (N := 45) hx31 (v := (am_names.getD j30 0)) rfl (pc' := 62) rfl ?_
          refine am_steps ok_Mo_findKind 1 (x' := (if ¬ ((s.2.2.1 24 j27) : Int32) = (am_names.getD j30 0) then 70 else 65, [some (.ref 22), some (.int v1)], [], h, 0, 0)) rfl (Nat.le_of_ble_eq_true rfl) (Nat.le_of_ble_eq_true rfl) ?_
          refine am_if (fun hc33 => ?_) (fun hc33 => ?_)
          · rw [if_pos hc33] at hd
            cases hd; exact K13 h hM f
          · rw [if_neg hc33] at hd
            refine am_steps ok_Mo_findKind 2 (x' := (67, [some (.ref 22), some (.int v1)], [.int v1, .ref 22], h, 0, 0)) rfl (Nat.le_of_ble_eq_true rfl) (Nat.le_of_ble_eq_true rfl) ?_
            refine mr_put ok_Mo_findKind rfl hM (by decide) rfl (s' := (mI s 4 v1)) (mfs_4 _ _) rfl (pc' := 70) rfl (Nat.le_of_ble_eq_true rfl) (Nat.le_of_ble_eq_true rfl) (fun h34 hM35 g37 => ?_)
            have f36 := mF.tr f g37
            cases hd; exact K13 h34 hM35 f36
def d_Mo_findKind  (s : mS) : Option (mS) := (l_Mo_findKind_7 100000 0 (mI s 4 (-1))).bind fun q38 => (some q38)
set_option maxHeartbeats 4000000 in
set_option maxRecDepth 100000 in
theorem k_Mo_findKind  (s : mS) (h0 : am_H) (hM : RM s h0) (q : mS) (hd : d_Mo_findKind  s = some q) : am_Me am_Pr none 0 0 0 0 29 [.ref 22] h0 (mQv q h0) := by
  refine am_enter (d := hd_Mo_findKind) rfl (by decide +kernel) (Nat.le_of_ble_eq_true rfl) ?_
  show am_S _ _ _ _ _ _ _ (0, [some (.ref 22), none], [], h0, 0, 0) _
  unfold d_Mo_findKind at hd
  refine am_steps ok_Mo_findKind 2 (x' := (2, [some (.ref 22), none], [.int (-1), .ref 22], h0, 0, 0)) rfl (Nat.le_of_ble_eq_true rfl) (Nat.le_of_ble_eq_true rfl) ?_
  refine mr_put ok_Mo_findKind rfl hM (by decide) rfl (s' := (mI s 4 (-1))) (mfs_4 _ _) rfl (pc' := 5) rfl (Nat.le_of_ble_eq_true rfl) (Nat.le_of_ble_eq_true rfl) (fun h1 hM2 g4 => ?_)
  have f3 := mF.tr (mF.rf) g4
  refine am_steps ok_Mo_findKind 2 (x' := (7, [some (.ref 22), some (.int 0)], [], h1, 0, 0)) rfl (Nat.le_of_ble_eq_true rfl) (Nat.le_of_ble_eq_true rfl) ?_
  obtain ⟨q38, hq39, hd40⟩ := Option.bind_eq_some_iff.mp hd; clear hd; have hd := hd40; clear hd40
  refine L_Mo_findKind_7 h0 100000 0 (mI s 4 (-1)) h1 hM2 f3 q38 hq39 (fun h41 hM42 f43 => ?_)
  show am_S _ _ _ _ _ _ _ (76, [some (.ref 22), none], [], h41, 0, 0) _
  cases hd; exact am_ret ok_Mo_findKind rfl (Nat.le_of_ble_eq_true rfl) (Nat.le_of_ble_eq_true rfl) ⟨rfl, hM42, f43⟩
