/-! Methods of the class as functions of its state. -/
def h_AL13_size (a : Nat) (S : hS) : Option (Int32) := some (S.2.1 1301 a)
set_option maxHeartbeats 4000000 in
set_option maxRecDepth 100000 in
theorem c_AL13_size (a : Nat) (S : hS) (h0 : am_H) (hR : RH S h0) (ha : hK S.1 a 13) (q : Int32) (hd : h_AL13_size a S = some q) : am_Me am_Pr none 0 0 0 0 231 [.ref a] h0 (am_is (some (.int q)) h0) := by
  refine am_enter (d := hd_AL_size) rfl (by decide +kernel) (Nat.le_of_ble_eq_true rfl) ?_
  show am_S _ _ _ _ _ _ _ (0, [some (.ref a)], [], h0, 0, 0) _
  unfold h_AL13_size at hd
  refine am_steps ok_AL_size 1 (x' := (1, [some (.ref a)], [.ref a], h0, 0, 0)) rfl (Nat.le_of_ble_eq_true rfl) (Nat.le_of_ble_eq_true rfl) ?_
  refine hr_get ok_AL_size rfl hR (kd := 13) ha rfl (Nat.le_of_ble_eq_true rfl) (Nat.le_of_ble_eq_true rfl) (v := .int (S.2.1 1301 a)) rfl (pc' := 4) rfl (Nat.le_of_ble_eq_true rfl) (Nat.le_of_ble_eq_true rfl) ?_
  cases hd; exact am_ret ok_AL_size rfl (Nat.le_of_ble_eq_true rfl) (Nat.le_of_ble_eq_true rfl) ⟨rfl, rfl⟩
def h_AL13_elementData (a : Nat) (b : Int32) (S : hS) : Option (Option Nat) := ((S.2.2.2.1 1300 a)).bind fun b1 => ((am_ix b (hlq S.1 b1)).bind fun j5 => (some (S.2.2.2.2.2.2 b1 j5)))
set_option maxHeartbeats 4000000 in
set_option maxRecDepth 100000 in
theorem c_AL13_elementData (a : Nat) (b : Int32) (S : hS) (h0 : am_H) (hR : RH S h0) (ha : hK S.1 a 13) (q : Option Nat) (hd : h_AL13_elementData a b S = some q) : am_Me am_Pr none 0 0 0 0 245 [.ref a, .int b] h0 (hPo (va_rf q) q 10 S.1 h0) := by
  refine am_enter (d := hd_AL_elementData) rfl (by decide +kernel) (Nat.le_of_ble_eq_true rfl) ?_
  show am_S _ _ _ _ _ _ _ (0, [some (.ref a), some (.int b)], [], h0, 0, 0) _
  unfold h_AL13_elementData at hd
  refine am_steps ok_AL_elementData 1 (x' := (1, [some (.ref a), some (.int b)], [.ref a], h0, 0, 0)) rfl (Nat.le_of_ble_eq_true rfl) (Nat.le_of_ble_eq_true rfl) ?_
  refine hr_get ok_AL_elementData rfl hR (kd := 13) ha rfl (Nat.le_of_ble_eq_true rfl) (Nat.le_of_ble_eq_true rfl) (v := va_rf (S.2.2.2.1 1300 a)) rfl (pc' := 4) rfl (Nat.le_of_ble_eq_true rfl) (Nat.le_of_ble_eq_true rfl) ?_
  refine am_steps ok_AL_elementData 1 (x' := (5, [some (.ref a), some (.int b)], [.int b, va_rf (S.2.2.2.1 1300 a)], h0, 0, 0)) rfl (Nat.le_of_ble_eq_true rfl) (Nat.le_of_ble_eq_true rfl) ?_
  obtain ⟨b1, hb2, hd3⟩ := Option.bind_eq_some_iff.mp hd; clear hd; have hd := hd3; clear hd3
  have hk4 := (fun b hb => hR.2.2.1 1300 _ b hb) b1 hb2
  rw [hb2]
  show am_S _ _ _ _ _ _ _ (5, [some (.ref a), some (.int b)], [.int b, .ref b1], h0, 0, 0) _
  obtain ⟨j5, hx6, hd7⟩ := Option.bind_eq_some_iff.mp hd; clear hd; have hd := hd7; clear hd7
  refine hr8_aald (d0 := hd_AL_elementData) rfl (by decide +kernel) (kd := 28) hR hk4 (by decide) hx6 (pc' := 6) rfl ?_
  cases hd; exact hr_ret ok_AL_elementData rfl ⟨hd_AL_elementData, rfl, _, rfl, Or.inl ⟨_, rfl⟩⟩ (Nat.le_of_ble_eq_true rfl) (Nat.le_of_ble_eq_true rfl) ⟨rfl, rfl, (fun b hb => hR.2.2.2.1 _ _ (hK.ln (hlq_ix hk4 hx6).1) _ b hb)⟩
def h_AL13_get (a : Nat) (b : Int32) (S : hS) : Option (Option Nat) := (h_Objects_checkIndex b (S.2.1 1301 a)).bind fun q1 => ((h_AL13_elementData a b S).bind fun q9 => (some q9))
set_option maxHeartbeats 4000000 in
set_option maxRecDepth 100000 in
theorem c_AL13_get (a : Nat) (b : Int32) (S : hS) (h0 : am_H) (hR : RH S h0) (ha : hK S.1 a 13) (q : Option Nat) (hd : h_AL13_get a b S = some q) : am_Me am_Pr none 2 43 0 0 244 [.ref a, .int b] h0 (hPo (va_rf q) q 10 S.1 h0) := by
  refine am_enter (d := hd_AL_get) rfl (by decide +kernel) (Nat.le_of_ble_eq_true rfl) ?_
  show am_S _ _ _ _ _ _ _ (0, [some (.ref a), some (.int b)], [], h0, 0, 0) _
  unfold h_AL13_get at hd
  refine am_steps ok_AL_get 2 (x' := (2, [some (.ref a), some (.int b)], [.ref a, .int b], h0, 0, 0)) rfl (Nat.le_of_ble_eq_true rfl) (Nat.le_of_ble_eq_true rfl) ?_
  refine hr_get ok_AL_get rfl hR (kd := 13) ha rfl (Nat.le_of_ble_eq_true rfl) (Nat.le_of_ble_eq_true rfl) (v := .int (S.2.1 1301 a)) rfl (pc' := 5) rfl (Nat.le_of_ble_eq_true rfl) (Nat.le_of_ble_eq_true rfl) ?_
  obtain ⟨q1, hq2, hd3⟩ := Option.bind_eq_some_iff.mp hd; clear hd; have hd := hd3; clear hd3
  refine am_call ok_AL_get hk_Objects_checkIndex rfl (args' := [.int b, .int (S.2.1 1301 a)]) (rest := []) rfl (c_Objects_checkIndex b (S.2.1 1301 a) h0 q1 hq2) (Nat.le_of_ble_eq_true rfl) (Nat.le_of_ble_eq_true rfl) (Nat.le_of_ble_eq_true rfl) (Nat.le_of_ble_eq_true rfl) (fun r4 h6 z5 => ?_)
  obtain ⟨rfl, z8⟩ := z5; rw [z8]
  show am_S _ _ _ _ _ _ _ (8, [some (.ref a), some (.int b)], [.int q1], h0, 0, 0) _
  refine am_steps ok_AL_get 3 (x' := (11, [some (.ref a), some (.int b)], [.int b, .ref a], h0, 0, 0)) rfl (Nat.le_of_ble_eq_true rfl) (Nat.le_of_ble_eq_true rfl) ?_
  obtain ⟨q9, hq10, hd11⟩ := Option.bind_eq_some_iff.mp hd; clear hd; have hd := hd11; clear hd11
  refine ar_cv ok_AL_get hk_AL_elementData rfl rfl (As := [.int b]) (ad := a) (rest := []) rfl rfl (hR.ob ha (Nat.le_of_ble_eq_true rfl)) (Nat.le_of_ble_eq_true rfl) (c_AL13_elementData a b S h0 hR ha q9 hq10) (Nat.le_of_ble_eq_true rfl) (Nat.le_of_ble_eq_true rfl) (Nat.le_of_ble_eq_true rfl) (Nat.le_of_ble_eq_true rfl) (pc' := 14) rfl (fun r12 h14 z13 => ?_)
  obtain ⟨rfl, z16, hk15⟩ := z13; rw [z16]
  show am_S _ _ _ _ _ _ _ (14, [some (.ref a), some (.int b)], [va_rf q9], h0, 0, 0) _
  cases hd; exact hr_ret ok_AL_get rfl ⟨hd_AL_get, rfl, _, rfl, Or.inl ⟨_, rfl⟩⟩ (Nat.le_of_ble_eq_true rfl) (Nat.le_of_ble_eq_true rfl) ⟨rfl, rfl, hk15⟩
def h_ArraysSupport_newLength (a : Int32) (b : Int32) (c : Int32) : Option (Int32) := if ((a + (if b < c then c else b)) : Int32) ≤ 0 then (none) else (if ((Int32.ofNat 2147483639) : Int32) < (a + (if b < c then c else b)) then (none) else (some (a + (if b < c then c else b))))
set_option maxHeartbeats 4000000 in
set_option maxRecDepth 100000 in
theorem c_ArraysSupport_newLength (a : Int32) (b : Int32) (c : Int32) (h0 : am_H) (q : Int32) (hd : h_ArraysSupport_newLength a b c = some q) : am_Me am_Pr none 1 30 0 0 250 [.int a, .int b, .int c] h0 (am_is (some (.int q)) h0) := by
  refine am_enter (d := hd_ArraysSupport_newLength) rfl (by decide +kernel) (Nat.le_of_ble_eq_true rfl) ?_
  show am_S _ _ _ _ _ _ _ (0, [some (.int a), some (.int b), some (.int c), none], [], h0, 0, 0) _
  unfold h_ArraysSupport_newLength at hd
  refine am_steps ok_ArraysSupport_newLength 3 (x' := (3, [some (.int a), some (.int b), some (.int c), none], [.int c, .int b, .int a], h0, 0, 0)) rfl (Nat.le_of_ble_eq_true rfl) (Nat.le_of_ble_eq_true rfl) ?_
  refine ar_max ok_ArraysSupport_newLength rfl (w := (if b < c then c else b)) rfl (Nat.le_of_ble_eq_true rfl) (Nat.le_of_ble_eq_true rfl) (Nat.le_of_ble_eq_true rfl) (Nat.le_of_ble_eq_true rfl) (pc' := 6) rfl ?_
  refine am_steps ok_ArraysSupport_newLength 5 (x' := (if ((a + (if b < c then c else b)) : Int32) ≤ 0 then 21 else 13, [some (.int a), some (.int b), some (.int c), some (.int (a + (if b < c then c else b)))], [], h0, 0, 0)) rfl (Nat.le_of_ble_eq_true rfl) (Nat.le_of_ble_eq_true rfl) ?_
  refine am_if (fun hc1 => ?_) (fun hc1 => ?_)
  · rw [if_pos hc1] at hd
    refine am_steps ok_ArraysSupport_newLength 2 (x' := (23, [some (.int a), some (.int b), some (.int c), some (.int (a + (if b < c then c else b)))], [.int b, .int a], h0, 0, 0)) rfl (Nat.le_of_ble_eq_true rfl) (Nat.le_of_ble_eq_true rfl) ?_
    cases hd
  · rw [if_neg hc1] at hd
    refine am_steps ok_ArraysSupport_newLength 3 (x' := (if ((Int32.ofNat 2147483639) : Int32) < (a + (if b < c then c else b)) then 21 else 19, [some (.int a), some (.int b), some (.int c), some (.int (a + (if b < c then c else b)))], [], h0, 0, 0)) rfl (Nat.le_of_ble_eq_true rfl) (Nat.le_of_ble_eq_true rfl) ?_
    refine am_if (fun hc2 => ?_) (fun hc2 => ?_)
    · rw [if_pos hc2] at hd
      refine am_steps ok_ArraysSupport_newLength 2 (x' := (23, [some (.int a), some (.int b), some (.int c), some (.int (a + (if b < c then c else b)))], [.int b, .int a], h0, 0, 0)) rfl (Nat.le_of_ble_eq_true rfl) (Nat.le_of_ble_eq_true rfl) ?_
      cases hd
    · rw [if_neg hc2] at hd
      refine am_steps ok_ArraysSupport_newLength 1 (x' := (20, [some (.int a), some (.int b), some (.int c), some (.int (a + (if b < c then c else b)))], [.int (a + (if b < c then c else b))], h0, 0, 0)) rfl (Nat.le_of_ble_eq_true rfl) (Nat.le_of_ble_eq_true rfl) ?_
      cases hd; exact am_ret ok_ArraysSupport_newLength rfl (Nat.le_of_ble_eq_true rfl) (Nat.le_of_ble_eq_true rfl) ⟨rfl, rfl⟩
def h_AL13_grow (a : Nat) (b : Int32) (S : hS) : Option (Nat × hS) := ((S.2.2.2.1 1300 a)).bind fun b1 => (if (0 : Int32) < (Int32.ofNat (hlq S.1 b1)) then ((h_ArraysSupport_newLength (Int32.ofNat (hlq S.1 b1)) (b - (Int32.ofNat (hlq S.1 b1))) ((Int32.ofNat (hlq S.1 b1)) >>> (1 &&& 31))).bind fun q6 => ((h_copyOf 28 400 b1 q6 S).bind fun q14 => (some (q14.1, (hpR q14.2 1300 a (some q14.1)))))) else (if b1 = am_M + 1 then ((hs_nl (if 10 < b then b else 10) 400).bind fun N33 => ((hs_al S).bind fun a30 => (some (a30, (hpR (hNew S 28 N33) 1300 a (some a30)))))) else none))
set_option maxHeartbeats 4000000 in
set_option maxRecDepth 100000 in
theorem c_AL13_grow (a : Nat) (b : Int32) (S : hS) (h0 : am_H) (hR : RH S h0) (ha : hK S.1 a 13) (q : Nat × hS) (hd : h_AL13_grow a b S = some q) : am_Me am_Pr none 3 65 1 400 249 [.ref a, .int b] h0 (hQo (.ref q.1) (some q.1) 28 q.2 S.1 h0) := by
  refine am_enter (d := hd_AL_grow) rfl (by decide +kernel) (Nat.le_of_ble_eq_true rfl) ?_
  show am_S _ _ _ _ _ _ _ (0, [some (.ref a), some (.int b), none, none], [], h0, 0, 0) _
  unfold h_AL13_grow at hd
  refine am_steps ok_AL_grow 1 (x' := (1, [some (.ref a), some (.int b), none, none], [.ref a], h0, 0, 0)) rfl (Nat.le_of_ble_eq_true rfl) (Nat.le_of_ble_eq_true rfl) ?_
  refine hr_get ok_AL_grow rfl hR (kd := 13) ha rfl (Nat.le_of_ble_eq_true rfl) (Nat.le_of_ble_eq_true rfl) (v := va_rf (S.2.2.2.1 1300 a)) rfl (pc' := 4) rfl (Nat.le_of_ble_eq_true rfl) (Nat.le_of_ble_eq_true rfl) ?_
  obtain ⟨b1, hb2, hd3⟩ := Option.bind_eq_some_iff.mp hd; clear hd; have hd := hd3; clear hd3
  have hk4 := (fun b hb => hR.2.2.1 1300 _ b hb) b1 hb2
  rw [hb2]
  show am_S _ _ _ _ _ _ _ (4, [some (.ref a), some (.int b), none, none], [.ref b1], h0, 0, 0) _
  refine hr8_alen (d0 := hd_AL_grow) rfl (by decide +kernel) (kd := 28) hR hk4 (by decide) (w := (Int32.ofNat (hlq S.1 b1))) rfl (pc' := 5) rfl ?_
  refine am_steps ok_AL_grow 3 (x' := (if (0 : Int32) < (Int32.ofNat (hlq S.1 b1)) then 20 else 10, [some (.ref a), some (.int b), some (.int (Int32.ofNat (hlq S.1 b1))), none], [], h0, 0, 0)) rfl (Nat.le_of_ble_eq_true rfl) (Nat.le_of_ble_eq_true rfl) ?_
  refine am_if (fun hc5 => ?_) (fun hc5 => ?_)
  · rw [if_pos hc5] at hd
    refine am_steps ok_AL_grow 7 (x' := (27, [some (.ref a), some (.int b), some (.int (Int32.ofNat (hlq S.1 b1))), none], [.int ((Int32.ofNat (hlq S.1 b1)) >>> (1 &&& 31)), .int (b - (Int32.ofNat (hlq S.1 b1))), .int (Int32.ofNat (hlq S.1 b1))], h0, 0, 0)) rfl (Nat.le_of_ble_eq_true rfl) (Nat.le_of_ble_eq_true rfl) ?_
    obtain ⟨q6, hq7, hd8⟩ := Option.bind_eq_some_iff.mp hd; clear hd; have hd := hd8; clear hd8
    refine am_call ok_AL_grow hk_ArraysSupport_newLength rfl (args' := [.int (Int32.ofNat (hlq S.1 b1)), .int (b - (Int32.ofNat (hlq S.1 b1))), .int ((Int32.ofNat (hlq S.1 b1)) >>> (1 &&& 31))]) (rest := []) rfl (c_ArraysSupport_newLength (Int32.ofNat (hlq S.1 b1)) (b - (Int32.ofNat (hlq S.1 b1))) ((Int32.ofNat (hlq S.1 b1)) >>> (1 &&& 31)) h0 q6 hq7) (Nat.le_of_ble_eq_true rfl) (Nat.le_of_ble_eq_true rfl) (Nat.le_of_ble_eq_true rfl) (Nat.le_of_ble_eq_true rfl) (fun r9 h11 z10 => ?_)
    obtain ⟨rfl, z13⟩ := z10; rw [z13]
    show am_S _ _ _ _ _ _ _ (30, [some (.ref a), some (.int b), some (.int (Int32.ofNat (hlq S.1 b1))), none], [.int q6], h0, 0, 0) _
    refine am_steps ok_AL_grow 3 (x' := (33, [some (.ref a), some (.int b), some (.int (Int32.ofNat (hlq S.1 b1))), some (.int q6)], [.ref a, .ref a], h0, 0, 0)) rfl (Nat.le_of_ble_eq_true rfl) (Nat.le_of_ble_eq_true rfl) ?_
    refine hr_get ok_AL_grow rfl hR (kd := 13) ha rfl (Nat.le_of_ble_eq_true rfl) (Nat.le_of_ble_eq_true rfl) (v := .ref b1) (congrArg va_rf hb2) (pc' := 36) rfl (Nat.le_of_ble_eq_true rfl) (Nat.le_of_ble_eq_true rfl) ?_
    refine am_steps ok_AL_grow 1 (x' := (37, [some (.ref a), some (.int b), some (.int (Int32.ofNat (hlq S.1 b1))), some (.int q6)], [.int q6, .ref b1, .ref a], h0, 0, 0)) rfl (Nat.le_of_ble_eq_true rfl) (Nat.le_of_ble_eq_true rfl) ?_
    obtain ⟨q14, hq15, hd16⟩ := Option.bind_eq_some_iff.mp hd; clear hd; have hd := hd16; clear hd16
    refine am_call ok_AL_grow hk_Arrays_copyOf rfl (args' := [.ref b1, .int q6]) (rest := [.ref a]) rfl (c_copyOf_28 b1 q6 S h0 hR hk4 q14 hq15) (Nat.le_of_ble_eq_true rfl) (Nat.le_of_ble_eq_true rfl) (Nat.le_of_ble_eq_true rfl) (Nat.le_of_ble_eq_true rfl) (fun r17 h19 z18 => ?_)
    obtain ⟨rfl, hk20, hR21, g22, e23⟩ := z18
    have f24 := hF.tr hF.rf g22
    show am_S _ _ _ _ _ _ _ (40, [some (.ref a), some (.int b), some (.int (Int32.ofNat (hlq S.1 b1))), some (.int q6)], [.ref q14.1, .ref a], h19, 1, 400) _
    refine am_steps ok_AL_grow 1 (x' := (41, [some (.ref a), some (.int b), some (.int (Int32.ofNat (hlq S.1 b1))), some (.int q6)], [.ref q14.1, .ref a, .ref q14.1], h19, 1, 400)) rfl (Nat.le_of_ble_eq_true rfl) (Nat.le_of_ble_eq_true rfl) ?_
    refine hr_put ok_AL_grow rfl hR21 (kd := 13) (ha.up e23) rfl (Nat.le_of_ble_eq_true rfl) (Nat.le_of_ble_eq_true rfl) rfl (S' := (hpR q14.2 1300 a (some q14.1))) rfl (hWT.ref hR21.2.2 (by decide) (fun _ hz => by cases hz; exact (Or.inr (hk20 _ rfl)))) (pc' := 44) rfl (Nat.le_of_ble_eq_true rfl) (Nat.le_of_ble_eq_true rfl) (fun h25 hR26 g27 => ?_)
    have f28 := hF.tr f24 g27
    cases hd; exact am_ret ok_AL_grow rfl (Nat.le_of_ble_eq_true rfl) (Nat.le_of_ble_eq_true rfl) ⟨rfl, (fun _ hz => by cases hz; exact (hk20 _ rfl)), hR26, f28, (hE.rf.tr e23)⟩
  · rw [if_neg hc5] at hd
    refine am_steps ok_AL_grow 1 (x' := (11, [some (.ref a), some (.int b), some (.int (Int32.ofNat (hlq S.1 b1))), none], [.ref a], h0, 0, 0)) rfl (Nat.le_of_ble_eq_true rfl) (Nat.le_of_ble_eq_true rfl) ?_
    refine hr_get ok_AL_grow rfl hR (kd := 13) ha rfl (Nat.le_of_ble_eq_true rfl) (Nat.le_of_ble_eq_true rfl) (v := .ref b1) (congrArg va_rf hb2) (pc' := 14) rfl (Nat.le_of_ble_eq_true rfl) (Nat.le_of_ble_eq_true rfl) ?_
    refine am_steps ok_AL_grow 1 (x' := (17, [some (.ref a), some (.int b), some (.int (Int32.ofNat (hlq S.1 b1))), none], [.ref (am_M + 1), .ref b1], h0, 0, 0)) rfl (Nat.le_of_ble_eq_true rfl) (Nat.le_of_ble_eq_true rfl) ?_
    split at hd
    · rename_i hz29; rw [show Value.ref b1 = Value.ref (am_M + 1) from congrArg Value.ref hz29]
      refine ao_aceq (d0 := hd_AL_grow) rfl (off := 28) (by decide +kernel) (pc' := 45) (by decide) ?_
      refine am_steps ok_AL_grow 3 (x' := (49, [some (.ref a), some (.int b), some (.int (Int32.ofNat (hlq S.1 b1))), none], [.int b, .int 10, .ref a], h0, 0, 0)) rfl (Nat.le_of_ble_eq_true rfl) (Nat.le_of_ble_eq_true rfl) ?_
      refine ar_max ok_AL_grow rfl (w := (if 10 < b then b else 10)) rfl (Nat.le_of_ble_eq_true rfl) (Nat.le_of_ble_eq_true rfl) (Nat.le_of_ble_eq_true rfl) (Nat.le_of_ble_eq_true rfl) (pc' := 52) rfl ?_
      obtain ⟨N33, hN34, hd35⟩ := Option.bind_eq_some_iff.mp hd; clear hd; have hd := hd35; clear hd35
      obtain ⟨a30, ha31, hd32⟩ := Option.bind_eq_some_iff.mp hd; clear hd; have hd := hd32; clear hd32
      refine hr8_anew (d0 := hd_AL_grow) rfl (x := 7) (a := 968) (kd := 28) (by decide +kernel) (by decide +kernel) hR (by decide) (hs_nl1 hN34) (N := N33) (hs_nl2 hN34) (by have := hs_nl3 hN34; first | omega | (dsimp only; omega)) (hs_al1 ha31) (hs_al2 ha31) (pc' := 55) rfl (k' := 1) rfl (n' := (0 + N33)) rfl (Nat.le_of_ble_eq_true rfl) (by have := hs_nl3 hN34; omega) (fun h36 hR37 g38 => ?_)
      have f39 := hF.tr hF.rf g38
      have e40 := hNew_E S 28 N33
      have hk41 := hs_al3 ha31 (hNew_K S 28 N33)
      refine am_wide (k' := 1) (n' := 400) (Nat.le_refl _) (by have := hs_nl3 hN34; omega) ?_
      refine am_steps ok_AL_grow 1 (x' := (56, [some (.ref a), some (.int b), some (.int (Int32.ofNat (hlq S.1 b1))), none], [.ref a30, .ref a, .ref a30], h36, 1, 400)) rfl (Nat.le_of_ble_eq_true rfl) (Nat.le_of_ble_eq_true rfl) ?_
      refine hr_put ok_AL_grow rfl hR37 (kd := 13) (ha.up e40) rfl (Nat.le_of_ble_eq_true rfl) (Nat.le_of_ble_eq_true rfl) rfl (S' := (hpR (hNew S 28 N33) 1300 a (some a30))) rfl (hWT.ref hR37.2.2 (by decide) (fun _ hz => by cases hz; exact (Or.inr hk41))) (pc' := 59) rfl (Nat.le_of_ble_eq_true rfl) (Nat.le_of_ble_eq_true rfl) (fun h42 hR43 g44 => ?_)
      have f45 := hF.tr f39 g44
      cases hd; exact am_ret ok_AL_grow rfl (Nat.le_of_ble_eq_true rfl) (Nat.le_of_ble_eq_true rfl) ⟨rfl, (fun _ hz => by cases hz; exact hk41), hR43, f45, (hE.rf.tr e40)⟩
    · cases hd
def h_AL13_grow2 (a : Nat) (S : hS) : Option (Nat × hS) := (h_AL13_grow a ((S.2.1 1301 a) + 1) S).bind fun q1 => (some (q1.1, q1.2))
set_option maxHeartbeats 4000000 in
set_option maxRecDepth 100000 in
theorem c_AL13_grow2 (a : Nat) (S : hS) (h0 : am_H) (hR : RH S h0) (ha : hK S.1 a 13) (q : Nat × hS) (hd : h_AL13_grow2 a S = some q) : am_Me am_Pr none 4 88 1 400 248 [.ref a] h0 (hQo (.ref q.1) (some q.1) 28 q.2 S.1 h0) := by
  refine am_enter (d := hd_AL_grow2) rfl (by decide +kernel) (Nat.le_of_ble_eq_true rfl) ?_
  show am_S _ _ _ _ _ _ _ (0, [some (.ref a)], [], h0, 0, 0) _
  unfold h_AL13_grow2 at hd
  refine am_steps ok_AL_grow2 2 (x' := (2, [some (.ref a)], [.ref a, .ref a], h0, 0, 0)) rfl (Nat.le_of_ble_eq_true rfl) (Nat.le_of_ble_eq_true rfl) ?_
  refine hr_get ok_AL_grow2 rfl hR (kd := 13) ha rfl (Nat.le_of_ble_eq_true rfl) (Nat.le_of_ble_eq_true rfl) (v := .int (S.2.1 1301 a)) rfl (pc' := 5) rfl (Nat.le_of_ble_eq_true rfl) (Nat.le_of_ble_eq_true rfl) ?_
  refine am_steps ok_AL_grow2 2 (x' := (7, [some (.ref a)], [.int ((S.2.1 1301 a) + 1), .ref a], h0, 0, 0)) rfl (Nat.le_of_ble_eq_true rfl) (Nat.le_of_ble_eq_true rfl) ?_
  obtain ⟨q1, hq2, hd3⟩ := Option.bind_eq_some_iff.mp hd; clear hd; have hd := hd3; clear hd3
  refine ar_cv ok_AL_grow2 hk_AL_grow rfl rfl (As := [.int ((S.2.1 1301 a) + 1)]) (ad := a) (rest := []) rfl rfl (hR.ob ha (Nat.le_of_ble_eq_true rfl)) (Nat.le_of_ble_eq_true rfl) (c_AL13_grow a ((S.2.1 1301 a) + 1) S h0 hR ha q1 hq2) (Nat.le_of_ble_eq_true rfl) (Nat.le_of_ble_eq_true rfl) (Nat.le_of_ble_eq_true rfl) (Nat.le_of_ble_eq_true rfl) (pc' := 10) rfl (fun r4 h6 z5 => ?_)
  obtain ⟨rfl, hk7, hR8, g9, e10⟩ := z5
  have f11 := hF.tr hF.rf g9
  show am_S _ _ _ _ _ _ _ (10, [some (.ref a)], [.ref q1.1], h6, 1, 400) _
  cases hd; exact am_ret ok_AL_grow2 rfl (Nat.le_of_ble_eq_true rfl) (Nat.le_of_ble_eq_true rfl) ⟨rfl, (fun _ hz => by cases hz; exact (hk7 _ rfl)), hR8, f11, (hE.rf.tr e10)⟩
def h_AL13_add (a : Nat) (b : Nat) (c : Nat) (d : Int32) (S : hS) : Option (hS) := (if ¬ (d : Int32) = (Int32.ofNat (hlq S.1 c)) then (some (c, S)) else ((h_AL13_grow2 a S).bind fun q22 => (some (q22.1, q22.2)))).bind fun (u1 : Nat × hS) => ((am_ix d (hlq u1.2.1 u1.1)).bind fun j10 => (some (hpI (hpQ u1.2 u1.1 j10 (some b)) 1301 a (d + 1))))
set_option maxHeartbeats 4000000 in
set_option maxRecDepth 100000 in
theorem c_AL13_add (a : Nat) (b : Nat) (c : Nat) (d : Int32) (S : hS) (h0 : am_H) (hR : RH S h0) (ha : hK S.1 a 13) (hb : hK S.1 b 10) (hc : hel S.1 c 28) (q : hS) (hd : h_AL13_add a b c d S = some q) : am_Me am_Pr none 5 108 1 400 247 [.ref a, .ref b, .ref c, .int d] h0 (hQv q S.1 h0) := by
  refine am_enter (d := hd_AL_add) rfl (by decide +kernel) (Nat.le_of_ble_eq_true rfl) ?_
  show am_S _ _ _ _ _ _ _ (0, [some (.ref a), some (.ref b), some (.ref c), some (.int d)], [], h0, 0, 0) _
  unfold h_AL13_add at hd
  refine am_steps ok_AL_add 2 (x' := (2, [some (.ref a), some (.ref b), some (.ref c), some (.int d)], [.ref c, .int d], h0, 0, 0)) rfl (Nat.le_of_ble_eq_true rfl) (Nat.le_of_ble_eq_true rfl) ?_
  refine hr8_alen (d0 := hd_AL_add) rfl (by decide +kernel) (kd := 28) hR hc (by decide) (w := (Int32.ofNat (hlq S.1 c))) rfl (pc' := 3) rfl ?_
  refine am_steps ok_AL_add 1 (x' := (if ¬ (d : Int32) = (Int32.ofNat (hlq S.1 c)) then 11 else 6, [some (.ref a), some (.ref b), some (.ref c), some (.int d)], [], h0, 0, 0)) rfl (Nat.le_of_ble_eq_true rfl) (Nat.le_of_ble_eq_true rfl) ?_
  obtain ⟨u1, hA4, hB5⟩ := Option.bind_eq_some_iff.mp hd; clear hd
  have K3 : ∀ h' : am_H, RH u1.2 h' → hF h0 h' → hE S.1 u1.2.1 → (hel u1.2.1 u1.1 28) → am_S am_Pr none 5 108 1 400 247 (11, [some (.ref a), some (.ref b), some (.ref u1.1), some (.int d)], [], h', 1, 400) (hQv q S.1 h0) := by
    have hd := hB5
    intro h6 hR7 f8 e9 hk2
    refine am_steps ok_AL_add 3 (x' := (14, [some (.ref a), some (.ref b), some (.ref u1.1), some (.int d)], [.ref b, .int d, .ref u1.1], h6, 1, 400)) rfl (Nat.le_of_ble_eq_true rfl) (Nat.le_of_ble_eq_true rfl) ?_
    obtain ⟨j10, hx11, hd12⟩ := Option.bind_eq_some_iff.mp hd; clear hd; have hd := hd12; clear hd12
    refine hr8_aast (d0 := hd_AL_add) rfl (by decide +kernel) (kd := 28) hR7 hk2 (by decide) hx11 (hb.up e9) rfl rfl (by decide +kernel) (pc' := 15) rfl (fun h13 hR14 g15 => ?_)
    have f16 := hF.tr f8 g15
    refine am_steps ok_AL_add 4 (x' := (19, [some (.ref a), some (.ref b), some (.ref u1.1), some (.int d)], [.int (d + 1), .ref a], h13, 1, 400)) rfl (Nat.le_of_ble_eq_true rfl) (Nat.le_of_ble_eq_true rfl) ?_
    refine hr_put ok_AL_add rfl hR14 (kd := 13) (ha.up e9) rfl (Nat.le_of_ble_eq_true rfl) (Nat.le_of_ble_eq_true rfl) rfl (S' := (hpI (hpQ u1.2 u1.1 j10 (some b)) 1301 a (d + 1))) rfl (hWT.up hR14.2.2 rfl rfl rfl) (pc' := 22) rfl (Nat.le_of_ble_eq_true rfl) (Nat.le_of_ble_eq_true rfl) (fun h17 hR18 g19 => ?_)
    have f20 := hF.tr f16 g19
    cases hd; exact am_ret ok_AL_add rfl (Nat.le_of_ble_eq_true rfl) (Nat.le_of_ble_eq_true rfl) ⟨rfl, hR18, f20, (hE.rf.tr e9)⟩
  clear hB5; have hd := hA4; clear hA4
  refine am_if (fun hc21 => ?_) (fun hc21 => ?_)
  · rw [if_pos hc21] at hd
    refine am_wide (k' := 1) (n' := 400) (Nat.le_of_ble_eq_true rfl) (Nat.le_of_ble_eq_true rfl) ?_
    cases hd; exact K3 h0 hR hF.rf hE.rf hc
  · rw [if_neg hc21] at hd
    refine am_steps ok_AL_add 1 (x' := (7, [some (.ref a), some (.ref b), some (.ref c), some (.int d)], [.ref a], h0, 0, 0)) rfl (Nat.le_of_ble_eq_true rfl) (Nat.le_of_ble_eq_true rfl) ?_
    obtain ⟨q22, hq23, hd24⟩ := Option.bind_eq_some_iff.mp hd; clear hd; have hd := hd24; clear hd24
    refine ar_cv ok_AL_add hk_AL_grow2 rfl rfl (As := []) (ad := a) (rest := []) rfl rfl (hR.ob ha (Nat.le_of_ble_eq_true rfl)) (Nat.le_of_ble_eq_true rfl) (c_AL13_grow2 a S h0 hR ha q22 hq23) (Nat.le_of_ble_eq_true rfl) (Nat.le_of_ble_eq_true rfl) (Nat.le_of_ble_eq_true rfl) (Nat.le_of_ble_eq_true rfl) (pc' := 10) rfl (fun r25 h27 z26 => ?_)
    obtain ⟨rfl, hk28, hR29, g30, e31⟩ := z26
    have f32 := hF.tr hF.rf g30
    show am_S _ _ _ _ _ _ _ (10, [some (.ref a), some (.ref b), some (.ref c), some (.int d)], [.ref q22.1], h27, 1, 400) _
    refine am_steps ok_AL_add 1 (x' := (11, [some (.ref a), some (.ref b), some (.ref q22.1), some (.int d)], [], h27, 1, 400)) rfl (Nat.le_of_ble_eq_true rfl) (Nat.le_of_ble_eq_true rfl) ?_
    cases hd; exact K3 h27 hR29 f32 e31 (Or.inr (hk28 _ rfl))
def h_AL13_add2 (a : Nat) (b : Nat) (S : hS) : Option (Int32 × hS) := ((S.2.2.2.1 1300 a)).bind fun b5 => ((h_AL13_add a b b5 (S.2.1 1301 a) (hpI S 1302 a ((S.2.1 1302 a) + 1))).bind fun q9 => (some (1, q9)))
set_option maxHeartbeats 4000000 in
set_option maxRecDepth 100000 in
theorem c_AL13_add2 (a : Nat) (b : Nat) (S : hS) (h0 : am_H) (hR : RH S h0) (ha : hK S.1 a 13) (hb : hK S.1 b 10) (q : Int32 × hS) (hd : h_AL13_add2 a b S = some q) : am_Me am_Pr none 6 131 1 400 246 [.ref a, .ref b] h0 (hQr (.int q.1) q.2 S.1 h0) := by
  refine am_enter (d := hd_AL_add2) rfl (by decide +kernel) (Nat.le_of_ble_eq_true rfl) ?_
  show am_S _ _ _ _ _ _ _ (0, [some (.ref a), some (.ref b)], [], h0, 0, 0) _
  unfold h_AL13_add2 at hd
  refine am_steps ok_AL_add2 2 (x' := (2, [some (.ref a), some (.ref b)], [.ref a, .ref a], h0, 0, 0)) rfl (Nat.le_of_ble_eq_true rfl) (Nat.le_of_ble_eq_true rfl) ?_
  refine hr_get ok_AL_add2 rfl hR (kd := 13) ha rfl (Nat.le_of_ble_eq_true rfl) (Nat.le_of_ble_eq_true rfl) (v := .int (S.2.1 1302 a)) rfl (pc' := 5) rfl (Nat.le_of_ble_eq_true rfl) (Nat.le_of_ble_eq_true rfl) ?_
  refine am_steps ok_AL_add2 2 (x' := (7, [some (.ref a), some (.ref b)], [.int ((S.2.1 1302 a) + 1), .ref a], h0, 0, 0)) rfl (Nat.le_of_ble_eq_true rfl) (Nat.le_of_ble_eq_true rfl) ?_
  refine hr_put ok_AL_add2 rfl hR (kd := 13) ha rfl (Nat.le_of_ble_eq_true rfl) (Nat.le_of_ble_eq_true rfl) rfl (S' := (hpI S 1302 a ((S.2.1 1302 a) + 1))) rfl (hWT.up hR.2.2 rfl rfl rfl) (pc' := 10) rfl (Nat.le_of_ble_eq_true rfl) (Nat.le_of_ble_eq_true rfl) (fun h1 hR2 g3 => ?_)
  have f4 := hF.tr hF.rf g3
  refine am_steps ok_AL_add2 3 (x' := (13, [some (.ref a), some (.ref b)], [.ref a, .ref b, .ref a], h1, 0, 0)) rfl (Nat.le_of_ble_eq_true rfl) (Nat.le_of_ble_eq_true rfl) ?_
  refine hr_get ok_AL_add2 rfl hR2 (kd := 13) ha rfl (Nat.le_of_ble_eq_true rfl) (Nat.le_of_ble_eq_true rfl) (v := va_rf (S.2.2.2.1 1300 a)) rfl (pc' := 16) rfl (Nat.le_of_ble_eq_true rfl) (Nat.le_of_ble_eq_true rfl) ?_
  refine am_steps ok_AL_add2 1 (x' := (17, [some (.ref a), some (.ref b)], [.ref a, va_rf (S.2.2.2.1 1300 a), .ref b, .ref a], h1, 0, 0)) rfl (Nat.le_of_ble_eq_true rfl) (Nat.le_of_ble_eq_true rfl) ?_
  refine hr_get ok_AL_add2 rfl hR2 (kd := 13) ha rfl (Nat.le_of_ble_eq_true rfl) (Nat.le_of_ble_eq_true rfl) (v := .int (S.2.1 1301 a)) rfl (pc' := 20) rfl (Nat.le_of_ble_eq_true rfl) (Nat.le_of_ble_eq_true rfl) ?_
  obtain ⟨b5, hb6, hd7⟩ := Option.bind_eq_some_iff.mp hd; clear hd; have hd := hd7; clear hd7
  have hk8 := (fun b hb => hR2.2.2.1 1300 _ b hb) b5 hb6
  rw [hb6]
  show am_S _ _ _ _ _ _ _ (20, [some (.ref a), some (.ref b)], [.int (S.2.1 1301 a), .ref b5, .ref b, .ref a], h1, 0, 0) _
  obtain ⟨q9, hq10, hd11⟩ := Option.bind_eq_some_iff.mp hd; clear hd; have hd := hd11; clear hd11
  refine ar_cv ok_AL_add2 hk_AL_add rfl rfl (As := [.ref b, .ref b5, .int (S.2.1 1301 a)]) (ad := a) (rest := []) rfl rfl (hR2.ob ha (Nat.le_of_ble_eq_true rfl)) (Nat.le_of_ble_eq_true rfl) (c_AL13_add a b b5 (S.2.1 1301 a) (hpI S 1302 a ((S.2.1 1302 a) + 1)) h1 hR2 ha hb hk8 q9 hq10) (Nat.le_of_ble_eq_true rfl) (Nat.le_of_ble_eq_true rfl) (Nat.le_of_ble_eq_true rfl) (Nat.le_of_ble_eq_true rfl) (pc' := 23) rfl (fun r12 h14 z13 => ?_)
  obtain ⟨rfl, hR16, g17, e18⟩ := z13
  have f19 := hF.tr f4 g17
  show am_S _ _ _ _ _ _ _ (23, [some (.ref a), some (.ref b)], [], h14, 1, 400) _
  refine am_steps ok_AL_add2 1 (x' := (24, [some (.ref a), some (.ref b)], [.int 1], h14, 1, 400)) rfl (Nat.le_of_ble_eq_true rfl) (Nat.le_of_ble_eq_true rfl) ?_
  cases hd; exact am_ret ok_AL_add2 rfl (Nat.le_of_ble_eq_true rfl) (Nat.le_of_ble_eq_true rfl) ⟨rfl, hR16, f19, (hE.rf.tr e18)⟩
def h_AL14_size  (S : hS) : Option (Int32) := some (S.2.1 1401 21)
set_option maxHeartbeats 4000000 in
set_option maxRecDepth 100000 in
theorem c_AL14_size  (S : hS) (h0 : am_H) (hR : RH S h0)  (q : Int32) (hd : h_AL14_size  S = some q) : am_Me am_Pr none 0 0 0 0 231 [.ref 21] h0 (am_is (some (.int q)) h0) := by
  refine am_enter (d := hd_AL_size) rfl (by decide +kernel) (Nat.le_of_ble_eq_true rfl) ?_
  show am_S _ _ _ _ _ _ _ (0, [some (.ref 21)], [], h0, 0, 0) _
  unfold h_AL14_size at hd
  refine am_steps ok_AL_size 1 (x' := (1, [some (.ref 21)], [.ref 21], h0, 0, 0)) rfl (Nat.le_of_ble_eq_true rfl) (Nat.le_of_ble_eq_true rfl) ?_
  refine hr_get ok_AL_size rfl hR (kd := 14) (hs_k hR (a := 21) rfl) rfl (Nat.le_of_ble_eq_true rfl) (Nat.le_of_ble_eq_true rfl) (v := .int (S.2.1 1401 21)) rfl (pc' := 4) rfl (Nat.le_of_ble_eq_true rfl) (Nat.le_of_ble_eq_true rfl) ?_
  cases hd; exact am_ret ok_AL_size rfl (Nat.le_of_ble_eq_true rfl) (Nat.le_of_ble_eq_true rfl) ⟨rfl, rfl⟩
def h_AL14_elementData (a : Int32) (S : hS) : Option (Option Nat) := ((S.2.2.2.1 1400 21)).bind fun b1 => ((am_ix a (hlq S.1 b1)).bind fun j5 => (some (S.2.2.2.2.2.2 b1 j5)))
set_option maxHeartbeats 4000000 in
set_option maxRecDepth 100000 in
theorem c_AL14_elementData (a : Int32) (S : hS) (h0 : am_H) (hR : RH S h0)  (q : Option Nat) (hd : h_AL14_elementData a S = some q) : am_Me am_Pr none 0 0 0 0 245 [.ref 21, .int a] h0 (hPo (va_rf q) q 12 S.1 h0) := by
  refine am_enter (d := hd_AL_elementData) rfl (by decide +kernel) (Nat.le_of_ble_eq_true rfl) ?_
  show am_S _ _ _ _ _ _ _ (0, [some (.ref 21), some (.int a)], [], h0, 0, 0) _
  unfold h_AL14_elementData at hd
  refine am_steps ok_AL_elementData 1 (x' := (1, [some (.ref 21), some (.int a)], [.ref 21], h0, 0, 0)) rfl (Nat.le_of_ble_eq_true rfl) (Nat.le_of_ble_eq_true rfl) ?_
  refine hr_get ok_AL_elementData rfl hR (kd := 14) (hs_k hR (a := 21) rfl) rfl (Nat.le_of_ble_eq_true rfl) (Nat.le_of_ble_eq_true rfl) (v := va_rf (S.2.2.2.1 1400 21)) rfl (pc' := 4) rfl (Nat.le_of_ble_eq_true rfl) (Nat.le_of_ble_eq_true rfl) ?_
  refine am_steps ok_AL_elementData 1 (x' := (5, [some (.ref 21), some (.int a)], [.int a, va_rf (S.2.2.2.1 1400 21)], h0, 0, 0)) rfl (Nat.le_of_ble_eq_true rfl) (Nat.le_of_ble_eq_true rfl) ?_
  obtain ⟨b1, hb2, hd3⟩ := Option.bind_eq_some_iff.mp hd; clear hd; have hd := hd3; clear hd3
  have hk4 := (fun b hb => hR.2.2.1 1400 _ b hb) b1 hb2
  rw [hb2]
  show am_S _ _ _ _ _ _ _ (5, [some (.ref 21), some (.int a)], [.int a, .ref b1], h0, 0, 0) _
  obtain ⟨j5, hx6, hd7⟩ := Option.bind_eq_some_iff.mp hd; clear hd; have hd := hd7; clear hd7
  refine hr8_aald (d0 := hd_AL_elementData) rfl (by decide +kernel) (kd := 29) hR hk4 (by decide) hx6 (pc' := 6) rfl ?_
  cases hd; exact hr_ret ok_AL_elementData rfl ⟨hd_AL_elementData, rfl, _, rfl, Or.inl ⟨_, rfl⟩⟩ (Nat.le_of_ble_eq_true rfl) (Nat.le_of_ble_eq_true rfl) ⟨rfl, rfl, (fun b hb => hR.2.2.2.1 _ _ (hK.ln (hlq_ix hk4 hx6).1) _ b hb)⟩
def h_AL14_get (a : Int32) (S : hS) : Option (Option Nat) := (h_Objects_checkIndex a (S.2.1 1401 21)).bind fun q1 => ((h_AL14_elementData a S).bind fun q9 => (some q9))
set_option maxHeartbeats 4000000 in
set_option maxRecDepth 100000 in
theorem c_AL14_get (a : Int32) (S : hS) (h0 : am_H) (hR : RH S h0)  (q : Option Nat) (hd : h_AL14_get a S = some q) : am_Me am_Pr none 2 43 0 0 244 [.ref 21, .int a] h0 (hPo (va_rf q) q 12 S.1 h0) := by
  refine am_enter (d := hd_AL_get) rfl (by decide +kernel) (Nat.le_of_ble_eq_true rfl) ?_
  show am_S _ _ _ _ _ _ _ (0, [some (.ref 21), some (.int a)], [], h0, 0, 0) _
  unfold h_AL14_get at hd
  refine am_steps ok_AL_get 2 (x' := (2, [some (.ref 21), some (.int a)], [.ref 21, .int a], h0, 0, 0)) rfl (Nat.le_of_ble_eq_true rfl) (Nat.le_of_ble_eq_true rfl) ?_
  refine hr_get ok_AL_get rfl hR (kd := 14) (hs_k hR (a := 21) rfl) rfl (Nat.le_of_ble_eq_true rfl) (Nat.le_of_ble_eq_true rfl) (v := .int (S.2.1 1401 21)) rfl (pc' := 5) rfl (Nat.le_of_ble_eq_true rfl) (Nat.le_of_ble_eq_true rfl) ?_
  obtain ⟨q1, hq2, hd3⟩ := Option.bind_eq_some_iff.mp hd; clear hd; have hd := hd3; clear hd3
  refine am_call ok_AL_get hk_Objects_checkIndex rfl (args' := [.int a, .int (S.2.1 1401 21)]) (rest := []) rfl (c_Objects_checkIndex a (S.2.1 1401 21) h0 q1 hq2) (Nat.le_of_ble_eq_true rfl) (Nat.le_of_ble_eq_true rfl) (Nat.le_of_ble_eq_true rfl) (Nat.le_of_ble_eq_true rfl) (fun r4 h6 z5 => ?_)
  obtain ⟨rfl, z8⟩ := z5; rw [z8]
  show am_S _ _ _ _ _ _ _ (8, [some (.ref 21), some (.int a)], [.int q1], h0, 0, 0) _
  refine am_steps ok_AL_get 3 (x' := (11, [some (.ref 21), some (.int a)], [.int a, .ref 21], h0, 0, 0)) rfl (Nat.le_of_ble_eq_true rfl) (Nat.le_of_ble_eq_true rfl) ?_
  obtain ⟨q9, hq10, hd11⟩ := Option.bind_eq_some_iff.mp hd; clear hd; have hd := hd11; clear hd11
  refine ar_cv ok_AL_get hk_AL_elementData rfl rfl (As := [.int a]) (ad := 21) (rest := []) rfl rfl (hR.ob (hs_k hR (a := 21) rfl) (Nat.le_of_ble_eq_true rfl)) (Nat.le_of_ble_eq_true rfl) (c_AL14_elementData a S h0 hR  q9 hq10) (Nat.le_of_ble_eq_true rfl) (Nat.le_of_ble_eq_true rfl) (Nat.le_of_ble_eq_true rfl) (Nat.le_of_ble_eq_true rfl) (pc' := 14) rfl (fun r12 h14 z13 => ?_)
  obtain ⟨rfl, z16, hk15⟩ := z13; rw [z16]
  show am_S _ _ _ _ _ _ _ (14, [some (.ref 21), some (.int a)], [va_rf q9], h0, 0, 0) _
  cases hd; exact hr_ret ok_AL_get rfl ⟨hd_AL_get, rfl, _, rfl, Or.inl ⟨_, rfl⟩⟩ (Nat.le_of_ble_eq_true rfl) (Nat.le_of_ble_eq_true rfl) ⟨rfl, rfl, hk15⟩
def h_AL14_grow (a : Int32) (S : hS) : Option (Nat × hS) := ((S.2.2.2.1 1400 21)).bind fun b1 => (if (0 : Int32) < (Int32.ofNat (hlq S.1 b1)) then ((h_ArraysSupport_newLength (Int32.ofNat (hlq S.1 b1)) (a - (Int32.ofNat (hlq S.1 b1))) ((Int32.ofNat (hlq S.1 b1)) >>> (1 &&& 31))).bind fun q6 => ((h_copyOf 29 1200 b1 q6 S).bind fun q14 => (some (q14.1, (hpR q14.2 1400 21 (some q14.1)))))) else (if b1 = am_M + 1 then ((hs_nl (if 10 < a then a else 10) 1200).bind fun N33 => ((hs_al S).bind fun a30 => (some (a30, (hpR (hNew S 29 N33) 1400 21 (some a30)))))) else none))
set_option maxHeartbeats 4000000 in
set_option maxRecDepth 100000 in
theorem c_AL14_grow (a : Int32) (S : hS) (h0 : am_H) (hR : RH S h0)  (q : Nat × hS) (hd : h_AL14_grow a S = some q) : am_Me am_Pr none 3 65 1 1200 249 [.ref 21, .int a] h0 (hQo (.ref q.1) (some q.1) 29 q.2 S.1 h0) := by
  refine am_enter (d := hd_AL_grow) rfl (by decide +kernel) (Nat.le_of_ble_eq_true rfl) ?_
  show am_S _ _ _ _ _ _ _ (0, [some (.ref 21), some (.int a), none, none], [], h0, 0, 0) _
  unfold h_AL14_grow at hd
  refine am_steps ok_AL_grow 1 (x' := (1, [some (.ref 21), some (.int a), none, none], [.ref 21], h0, 0, 0)) rfl (Nat.le_of_ble_eq_true rfl) (Nat.le_of_ble_eq_true rfl) ?_
  refine hr_get ok_AL_grow rfl hR (kd := 14) (hs_k hR (a := 21) rfl) rfl (Nat.le_of_ble_eq_true rfl) (Nat.le_of_ble_eq_true rfl) (v := va_rf (S.2.2.2.1 1400 21)) rfl (pc' := 4) rfl (Nat.le_of_ble_eq_true rfl) (Nat.le_of_ble_eq_true rfl) ?_
  obtain ⟨b1, hb2, hd3⟩ := Option.bind_eq_some_iff.mp hd; clear hd; have hd := hd3; clear hd3
  have hk4 := (fun b hb => hR.2.2.1 1400 _ b hb) b1 hb2
  rw [hb2]
  show am_S _ _ _ _ _ _ _ (4, [some (.ref 21), some (.int a), none, none], [.ref b1], h0, 0, 0) _
  refine hr8_alen (d0 := hd_AL_grow) rfl (by decide +kernel) (kd := 29) hR hk4 (by decide) (w := (Int32.ofNat (hlq S.1 b1))) rfl (pc' := 5) rfl ?_
  refine am_steps ok_AL_grow 3 (x' := (if (0 : Int32) < (Int32.ofNat (hlq S.1 b1)) then 20 else 10, [some (.ref 21), some (.int a), some (.int (Int32.ofNat (hlq S.1 b1))), none], [], h0, 0, 0)) rfl (Nat.le_of_ble_eq_true rfl) (Nat.le_of_ble_eq_true rfl) ?_
  refine am_if (fun hc5 => ?_) (fun hc5 => ?_)
  · rw [if_pos hc5] at hd
    refine am_steps ok_AL_grow 7 (x' := (27, [some (.ref 21), some (.int a), some (.int (Int32.ofNat (hlq S.1 b1))), none], [.int ((Int32.ofNat (hlq S.1 b1)) >>> (1 &&& 31)), .int (a - (Int32.ofNat (hlq S.1 b1))), .int (Int32.ofNat (hlq S.1 b1))], h0, 0, 0)) rfl (Nat.le_of_ble_eq_true rfl) (Nat.le_of_ble_eq_true rfl) ?_
    obtain ⟨q6, hq7, hd8⟩ := Option.bind_eq_some_iff.mp hd; clear hd; have hd := hd8; clear hd8
    refine am_call ok_AL_grow hk_ArraysSupport_newLength rfl (args' := [.int (Int32.ofNat (hlq S.1 b1)), .int (a - (Int32.ofNat (hlq S.1 b1))), .int ((Int32.ofNat (hlq S.1 b1)) >>> (1 &&& 31))]) (rest := []) rfl (c_ArraysSupport_newLength (Int32.ofNat (hlq S.1 b1)) (a - (Int32.ofNat (hlq S.1 b1))) ((Int32.ofNat (hlq S.1 b1)) >>> (1 &&& 31)) h0 q6 hq7) (Nat.le_of_ble_eq_true rfl) (Nat.le_of_ble_eq_true rfl) (Nat.le_of_ble_eq_true rfl) (Nat.le_of_ble_eq_true rfl) (fun r9 h11 z10 => ?_)
    obtain ⟨rfl, z13⟩ := z10; rw [z13]
    show am_S _ _ _ _ _ _ _ (30, [some (.ref 21), some (.int a), some (.int (Int32.ofNat (hlq S.1 b1))), none], [.int q6], h0, 0, 0) _
    refine am_steps ok_AL_grow 3 (x' := (33, [some (.ref 21), some (.int a), some (.int (Int32.ofNat (hlq S.1 b1))), some (.int q6)], [.ref 21, .ref 21], h0, 0, 0)) rfl (Nat.le_of_ble_eq_true rfl) (Nat.le_of_ble_eq_true rfl) ?_
    refine hr_get ok_AL_grow rfl hR (kd := 14) (hs_k hR (a := 21) rfl) rfl (Nat.le_of_ble_eq_true rfl) (Nat.le_of_ble_eq_true rfl) (v := .ref b1) (congrArg va_rf hb2) (pc' := 36) rfl (Nat.le_of_ble_eq_true rfl) (Nat.le_of_ble_eq_true rfl) ?_
    refine am_steps ok_AL_grow 1 (x' := (37, [some (.ref 21), some (.int a), some (.int (Int32.ofNat (hlq S.1 b1))), some (.int q6)], [.int q6, .ref b1, .ref 21], h0, 0, 0)) rfl (Nat.le_of_ble_eq_true rfl) (Nat.le_of_ble_eq_true rfl) ?_
    obtain ⟨q14, hq15, hd16⟩ := Option.bind_eq_some_iff.mp hd; clear hd; have hd := hd16; clear hd16
    refine am_call ok_AL_grow hk_Arrays_copyOf rfl (args' := [.ref b1, .int q6]) (rest := [.ref 21]) rfl (c_copyOf_29 b1 q6 S h0 hR hk4 q14 hq15) (Nat.le_of_ble_eq_true rfl) (Nat.le_of_ble_eq_true rfl) (Nat.le_of_ble_eq_true rfl) (Nat.le_of_ble_eq_true rfl) (fun r17 h19 z18 => ?_)
    obtain ⟨rfl, hk20, hR21, g22, e23⟩ := z18
    have f24 := hF.tr hF.rf g22
    show am_S _ _ _ _ _ _ _ (40, [some (.ref 21), some (.int a), some (.int (Int32.ofNat (hlq S.1 b1))), some (.int q6)], [.ref q14.1, .ref 21], h19, 1, 1200) _
    refine am_steps ok_AL_grow 1 (x' := (41, [some (.ref 21), some (.int a), some (.int (Int32.ofNat (hlq S.1 b1))), some (.int q6)], [.ref q14.1, .ref 21, .ref q14.1], h19, 1, 1200)) rfl (Nat.le_of_ble_eq_true rfl) (Nat.le_of_ble_eq_true rfl) ?_
    refine hr_put ok_AL_grow rfl hR21 (kd := 14) (hs_k hR21 (a := 21) rfl) rfl (Nat.le_of_ble_eq_true rfl) (Nat.le_of_ble_eq_true rfl) rfl (S' := (hpR q14.2 1400 21 (some q14.1))) rfl (hWT.ref hR21.2.2 (by decide) (fun _ hz => by cases hz; exact (Or.inr (hk20 _ rfl)))) (pc' := 44) rfl (Nat.le_of_ble_eq_true rfl) (Nat.le_of_ble_eq_true rfl) (fun h25 hR26 g27 => ?_)
    have f28 := hF.tr f24 g27
    cases hd; exact am_ret ok_AL_grow rfl (Nat.le_of_ble_eq_true rfl) (Nat.le_of_ble_eq_true rfl) ⟨rfl, (fun _ hz => by cases hz; exact (hk20 _ rfl)), hR26, f28, (hE.rf.tr e23)⟩
  · rw [if_neg hc5] at hd
    refine am_steps ok_AL_grow 1 (x' := (11, [some (.ref 21), some (.int a), some (.int (Int32.ofNat (hlq S.1 b1))), none], [.ref 21], h0, 0, 0)) rfl (Nat.le_of_ble_eq_true rfl) (Nat.le_of_ble_eq_true rfl) ?_
    refine hr_get ok_AL_grow rfl hR (kd := 14) (hs_k hR (a := 21) rfl) rfl (Nat.le_of_ble_eq_true rfl) (Nat.le_of_ble_eq_true rfl) (v := .ref b1) (congrArg va_rf hb2) (pc' := 14) rfl (Nat.le_of_ble_eq_true rfl) (Nat.le_of_ble_eq_true rfl) ?_
    refine am_steps ok_AL_grow 1 (x' := (17, [some (.ref 21), some (.int a), some (.int (Int32.ofNat (hlq S.1 b1))), none], [.ref (am_M + 1), .ref b1], h0, 0, 0)) rfl (Nat.le_of_ble_eq_true rfl) (Nat.le_of_ble_eq_true rfl) ?_
    split at hd
    · rename_i hz29; rw [show Value.ref b1 = Value.ref (am_M + 1) from congrArg Value.ref hz29]
      refine ao_aceq (d0 := hd_AL_grow) rfl (off := 28) (by decide +kernel) (pc' := 45) (by decide) ?_
      refine am_steps ok_AL_grow 3 (x' := (49, [some (.ref 21), some (.int a), some (.int (Int32.ofNat (hlq S.1 b1))), none], [.int a, .int 10, .ref 21], h0, 0, 0)) rfl (Nat.le_of_ble_eq_true rfl) (Nat.le_of_ble_eq_true rfl) ?_
      refine ar_max ok_AL_grow rfl (w := (if 10 < a then a else 10)) rfl (Nat.le_of_ble_eq_true rfl) (Nat.le_of_ble_eq_true rfl) (Nat.le_of_ble_eq_true rfl) (Nat.le_of_ble_eq_true rfl) (pc' := 52) rfl ?_
      obtain ⟨N33, hN34, hd35⟩ := Option.bind_eq_some_iff.mp hd; clear hd; have hd := hd35; clear hd35
      obtain ⟨a30, ha31, hd32⟩ := Option.bind_eq_some_iff.mp hd; clear hd; have hd := hd32; clear hd32
      refine hr8_anew (d0 := hd_AL_grow) rfl (x := 7) (a := 968) (kd := 29) (by decide +kernel) (by decide +kernel) hR (by decide) (hs_nl1 hN34) (N := N33) (hs_nl2 hN34) (by have := hs_nl3 hN34; first | omega | (dsimp only; omega)) (hs_al1 ha31) (hs_al2 ha31) (pc' := 55) rfl (k' := 1) rfl (n' := (0 + N33)) rfl (Nat.le_of_ble_eq_true rfl) (by have := hs_nl3 hN34; omega) (fun h36 hR37 g38 => ?_)
      have f39 := hF.tr hF.rf g38
      have e40 := hNew_E S 29 N33
      have hk41 := hs_al3 ha31 (hNew_K S 29 N33)
      refine am_wide (k' := 1) (n' := 1200) (Nat.le_refl _) (by have := hs_nl3 hN34; omega) ?_
      refine am_steps ok_AL_grow 1 (x' := (56, [some (.ref 21), some (.int a), some (.int (Int32.ofNat (hlq S.1 b1))), none], [.ref a30, .ref 21, .ref a30], h36, 1, 1200)) rfl (Nat.le_of_ble_eq_true rfl) (Nat.le_of_ble_eq_true rfl) ?_
      refine hr_put ok_AL_grow rfl hR37 (kd := 14) (hs_k hR37 (a := 21) rfl) rfl (Nat.le_of_ble_eq_true rfl) (Nat.le_of_ble_eq_true rfl) rfl (S' := (hpR (hNew S 29 N33) 1400 21 (some a30))) rfl (hWT.ref hR37.2.2 (by decide) (fun _ hz => by cases hz; exact (Or.inr hk41))) (pc' := 59) rfl (Nat.le_of_ble_eq_true rfl) (Nat.le_of_ble_eq_true rfl) (fun h42 hR43 g44 => ?_)
      have f45 := hF.tr f39 g44
      cases hd; exact am_ret ok_AL_grow rfl (Nat.le_of_ble_eq_true rfl) (Nat.le_of_ble_eq_true rfl) ⟨rfl, (fun _ hz => by cases hz; exact hk41), hR43, f45, (hE.rf.tr e40)⟩
    · cases hd
def h_AL14_grow2  (S : hS) : Option (Nat × hS) := (h_AL14_grow ((S.2.1 1401 21) + 1) S).bind fun q1 => (some (q1.1, q1.2))
set_option maxHeartbeats 4000000 in
set_option maxRecDepth 100000 in
theorem c_AL14_grow2  (S : hS) (h0 : am_H) (hR : RH S h0)  (q : Nat × hS) (hd : h_AL14_grow2  S = some q) : am_Me am_Pr none 4 88 1 1200 248 [.ref 21] h0 (hQo (.ref q.1) (some q.1) 29 q.2 S.1 h0) := by
  refine am_enter (d := hd_AL_grow2) rfl (by decide +kernel) (Nat.le_of_ble_eq_true rfl) ?_
  show am_S _ _ _ _ _ _ _ (0, [some (.ref 21)], [], h0, 0, 0) _
  unfold h_AL14_grow2 at hd
  refine am_steps ok_AL_grow2 2 (x' := (2, [some (.ref 21)], [.ref 21, .ref 21], h0, 0, 0)) rfl (Nat.le_of_ble_eq_true rfl) (Nat.le_of_ble_eq_true rfl) ?_
  refine hr_get ok_AL_grow2 rfl hR (kd := 14) (hs_k hR (a := 21) rfl) rfl (Nat.le_of_ble_eq_true rfl) (Nat.le_of_ble_eq_true rfl) (v := .int (S.2.1 1401 21)) rfl (pc' := 5) rfl (Nat.le_of_ble_eq_true rfl) (Nat.le_of_ble_eq_true rfl) ?_
  refine am_steps ok_AL_grow2 2 (x' := (7, [some (.ref 21)], [.int ((S.2.1 1401 21) + 1), .ref 21], h0, 0, 0)) rfl (Nat.le_of_ble_eq_true rfl) (Nat.le_of_ble_eq_true rfl) ?_
  obtain ⟨q1, hq2, hd3⟩ := Option.bind_eq_some_iff.mp hd; clear hd; have hd := hd3; clear hd3
  refine ar_cv ok_AL_grow2 hk_AL_grow rfl rfl (As := [.int ((S.2.1 1401 21) + 1)]) (ad := 21) (rest := []) rfl rfl (hR.ob (hs_k hR (a := 21) rfl) (Nat.le_of_ble_eq_true rfl)) (Nat.le_of_ble_eq_true rfl) (c_AL14_grow ((S.2.1 1401 21) + 1) S h0 hR  q1 hq2) (Nat.le_of_ble_eq_true rfl) (Nat.le_of_ble_eq_true rfl) (Nat.le_of_ble_eq_true rfl) (Nat.le_of_ble_eq_true rfl) (pc' := 10) rfl (fun r4 h6 z5 => ?_)
  obtain ⟨rfl, hk7, hR8, g9, e10⟩ := z5
  have f11 := hF.tr hF.rf g9
  show am_S _ _ _ _ _ _ _ (10, [some (.ref 21)], [.ref q1.1], h6, 1, 1200) _
  cases hd; exact am_ret ok_AL_grow2 rfl (Nat.le_of_ble_eq_true rfl) (Nat.le_of_ble_eq_true rfl) ⟨rfl, (fun _ hz => by cases hz; exact (hk7 _ rfl)), hR8, f11, (hE.rf.tr e10)⟩
def h_AL14_add (a : Nat) (b : Nat) (c : Int32) (S : hS) : Option (hS) := (if ¬ (c : Int32) = (Int32.ofNat (hlq S.1 b)) then (some (b, S)) else ((h_AL14_grow2  S).bind fun q22 => (some (q22.1, q22.2)))).bind fun (u1 : Nat × hS) => ((am_ix c (hlq u1.2.1 u1.1)).bind fun j10 => (some (hpI (hpQ u1.2 u1.1 j10 (some a)) 1401 21 (c + 1))))
set_option maxHeartbeats 4000000 in
set_option maxRecDepth 100000 in
theorem c_AL14_add (a : Nat) (b : Nat) (c : Int32) (S : hS) (h0 : am_H) (hR : RH S h0) (ha : hK S.1 a 12) (hb : hel S.1 b 29) (q : hS) (hd : h_AL14_add a b c S = some q) : am_Me am_Pr none 5 108 1 1200 247 [.ref 21, .ref a, .ref b, .int c] h0 (hQv q S.1 h0) := by
  refine am_enter (d := hd_AL_add) rfl (by decide +kernel) (Nat.le_of_ble_eq_true rfl) ?_
  show am_S _ _ _ _ _ _ _ (0, [some (.ref 21), some (.ref a), some (.ref b), some (.int c)], [], h0, 0, 0) _
  unfold h_AL14_add at hd
  refine am_steps ok_AL_add 2 (x' := (2, [some (.ref 21), some (.ref a), some (.ref b), some (.int c)], [.ref b, .int c], h0, 0, 0)) rfl (Nat.le_of_ble_eq_true rfl) (Nat.le_of_ble_eq_true rfl) ?_
  refine hr8_alen (d0 := hd_AL_add) rfl (by decide +kernel) (kd := 29) hR hb (by decide) (w := (Int32.ofNat (hlq S.1 b))) rfl (pc' := 3) rfl ?_
  refine am_steps ok_AL_add 1 (x' := (if ¬ (c : Int32) = (Int32.ofNat (hlq S.1 b)) then 11 else 6, [some (.ref 21), some (.ref a), some (.ref b), some (.int c)], [], h0, 0, 0)) rfl (Nat.le_of_ble_eq_true rfl) (Nat.le_of_ble_eq_true rfl) ?_
  obtain ⟨u1, hA4, hB5⟩ := Option.bind_eq_some_iff.mp hd; clear hd
  have K3 : ∀ h' : am_H, RH u1.2 h' → hF h0 h' → hE S.1 u1.2.1 → (hel u1.2.1 u1.1 29) → am_S am_Pr none 5 108 1 1200 247 (11, [some (.ref 21), some (.ref a), some (.ref u1.1), some (.int c)], [], h', 1, 1200) (hQv q S.1 h0) := by
    have hd := hB5
    intro h6 hR7 f8 e9 hk2
    refine am_steps ok_AL_add 3 (x' := (14, [some (.ref 21), some (.ref a), some (.ref u1.1), some (.int c)], [.ref a, .int c, .ref u1.1], h6, 1, 1200)) rfl (Nat.le_of_ble_eq_true rfl) (Nat.le_of_ble_eq_true rfl) ?_
    obtain ⟨j10, hx11, hd12⟩ := Option.bind_eq_some_iff.mp hd; clear hd; have hd := hd12; clear hd12
    refine hr8_aast (d0 := hd_AL_add) rfl (by decide +kernel) (kd := 29) hR7 hk2 (by decide) hx11 (ha.up e9) rfl rfl (by decide +kernel) (pc' := 15) rfl (fun h13 hR14 g15 => ?_)
    have f16 := hF.tr f8 g15
    refine am_steps ok_AL_add 4 (x' := (19, [some (.ref 21), some (.ref a), some (.ref u1.1), some (.int c)], [.int (c + 1), .ref 21], h13, 1, 1200)) rfl (Nat.le_of_ble_eq_true rfl) (Nat.le_of_ble_eq_true rfl) ?_
    refine hr_put ok_AL_add rfl hR14 (kd := 14) (hs_k hR14 (a := 21) rfl) rfl (Nat.le_of_ble_eq_true rfl) (Nat.le_of_ble_eq_true rfl) rfl (S' := (hpI (hpQ u1.2 u1.1 j10 (some a)) 1401 21 (c + 1))) rfl (hWT.up hR14.2.2 rfl rfl rfl) (pc' := 22) rfl (Nat.le_of_ble_eq_true rfl) (Nat.le_of_ble_eq_true rfl) (fun h17 hR18 g19 => ?_)
    have f20 := hF.tr f16 g19
    cases hd; exact am_ret ok_AL_add rfl (Nat.le_of_ble_eq_true rfl) (Nat.le_of_ble_eq_true rfl) ⟨rfl, hR18, f20, (hE.rf.tr e9)⟩
  clear hB5; have hd := hA4; clear hA4
  refine am_if (fun hc21 => ?_) (fun hc21 => ?_)
  · rw [if_pos hc21] at hd
    refine am_wide (k' := 1) (n' := 1200) (Nat.le_of_ble_eq_true rfl) (Nat.le_of_ble_eq_true rfl) ?_
    cases hd; exact K3 h0 hR hF.rf hE.rf hb
  · rw [if_neg hc21] at hd
    refine am_steps ok_AL_add 1 (x' := (7, [some (.ref 21), some (.ref a), some (.ref b), some (.int c)], [.ref 21], h0, 0, 0)) rfl (Nat.le_of_ble_eq_true rfl) (Nat.le_of_ble_eq_true rfl) ?_
    obtain ⟨q22, hq23, hd24⟩ := Option.bind_eq_some_iff.mp hd; clear hd; have hd := hd24; clear hd24
    refine ar_cv ok_AL_add hk_AL_grow2 rfl rfl (As := []) (ad := 21) (rest := []) rfl rfl (hR.ob (hs_k hR (a := 21) rfl) (Nat.le_of_ble_eq_true rfl)) (Nat.le_of_ble_eq_true rfl) (c_AL14_grow2  S h0 hR  q22 hq23) (Nat.le_of_ble_eq_true rfl) (Nat.le_of_ble_eq_true rfl) (Nat.le_of_ble_eq_true rfl) (Nat.le_of_ble_eq_true rfl) (pc' := 10) rfl (fun r25 h27 z26 => ?_)
    obtain ⟨rfl, hk28, hR29, g30, e31⟩ := z26
    have f32 := hF.tr hF.rf g30
    show am_S _ _ _ _ _ _ _ (10, [some (.ref 21), some (.ref a), some (.ref b), some (.int c)], [.ref q22.1], h27, 1, 1200) _
    refine am_steps ok_AL_add 1 (x' := (11, [some (.ref 21), some (.ref a), some (.ref q22.1), some (.int c)], [], h27, 1, 1200)) rfl (Nat.le_of_ble_eq_true rfl) (Nat.le_of_ble_eq_true rfl) ?_
    cases hd; exact K3 h27 hR29 f32 e31 (Or.inr (hk28 _ rfl))
def h_AL14_add2 (a : Nat) (S : hS) : Option (Int32 × hS) := ((S.2.2.2.1 1400 21)).bind fun b5 => ((h_AL14_add a b5 (S.2.1 1401 21) (hpI S 1402 21 ((S.2.1 1402 21) + 1))).bind fun q9 => (some (1, q9)))
set_option maxHeartbeats 4000000 in
set_option maxRecDepth 100000 in
theorem c_AL14_add2 (a : Nat) (S : hS) (h0 : am_H) (hR : RH S h0) (ha : hK S.1 a 12) (q : Int32 × hS) (hd : h_AL14_add2 a S = some q) : am_Me am_Pr none 6 131 1 1200 246 [.ref 21, .ref a] h0 (hQr (.int q.1) q.2 S.1 h0) := by
  refine am_enter (d := hd_AL_add2) rfl (by decide +kernel) (Nat.le_of_ble_eq_true rfl) ?_
  show am_S _ _ _ _ _ _ _ (0, [some (.ref 21), some (.ref a)], [], h0, 0, 0) _
  unfold h_AL14_add2 at hd
  refine am_steps ok_AL_add2 2 (x' := (2, [some (.ref 21), some (.ref a)], [.ref 21, .ref 21], h0, 0, 0)) rfl (Nat.le_of_ble_eq_true rfl) (Nat.le_of_ble_eq_true rfl) ?_
  refine hr_get ok_AL_add2 rfl hR (kd := 14) (hs_k hR (a := 21) rfl) rfl (Nat.le_of_ble_eq_true rfl) (Nat.le_of_ble_eq_true rfl) (v := .int (S.2.1 1402 21)) rfl (pc' := 5) rfl (Nat.le_of_ble_eq_true rfl) (Nat.le_of_ble_eq_true rfl) ?_
  refine am_steps ok_AL_add2 2 (x' := (7, [some (.ref 21), some (.ref a)], [.int ((S.2.1 1402 21) + 1), .ref 21], h0, 0, 0)) rfl (Nat.le_of_ble_eq_true rfl) (Nat.le_of_ble_eq_true rfl) ?_
  refine hr_put ok_AL_add2 rfl hR (kd := 14) (hs_k hR (a := 21) rfl) rfl (Nat.le_of_ble_eq_true rfl) (Nat.le_of_ble_eq_true rfl) rfl (S' := (hpI S 1402 21 ((S.2.1 1402 21) + 1))) rfl (hWT.up hR.2.2 rfl rfl rfl) (pc' := 10) rfl (Nat.le_of_ble_eq_true rfl) (Nat.le_of_ble_eq_true rfl) (fun h1 hR2 g3 => ?_)
  have f4 := hF.tr hF.rf g3
  refine am_steps ok_AL_add2 3 (x' := (13, [some (.ref 21), some (.ref a)], [.ref 21, .ref a, .ref 21], h1, 0, 0)) rfl (Nat.le_of_ble_eq_true rfl) (Nat.le_of_ble_eq_true rfl) ?_
  refine hr_get ok_AL_add2 rfl hR2 (kd := 14) (hs_k hR2 (a := 21) rfl) rfl (Nat.le_of_ble_eq_true rfl) (Nat.le_of_ble_eq_true rfl) (v := va_rf (S.2.2.2.1 1400 21)) rfl (pc' := 16) rfl (Nat.le_of_ble_eq_true rfl) (Nat.le_of_ble_eq_true rfl) ?_
  refine am_steps ok_AL_add2 1 (x' := (17, [some (.ref 21), some (.ref a)], [.ref 21, va_rf (S.2.2.2.1 1400 21), .ref a, .ref 21], h1, 0, 0)) rfl (Nat.le_of_ble_eq_true rfl) (Nat.le_of_ble_eq_true rfl) ?_
  refine hr_get ok_AL_add2 rfl hR2 (kd := 14) (hs_k hR2 (a := 21) rfl) rfl (Nat.le_of_ble_eq_true rfl) (Nat.le_of_ble_eq_true rfl) (v := .int (S.2.1 1401 21)) rfl (pc' := 20) rfl (Nat.le_of_ble_eq_true rfl) (Nat.le_of_ble_eq_true rfl) ?_
  obtain ⟨b5, hb6, hd7⟩ := Option.bind_eq_some_iff.mp hd; clear hd; have hd := hd7; clear hd7
  have hk8 := (fun b hb => hR2.2.2.1 1400 _ b hb) b5 hb6
  rw [hb6]
  show am_S _ _ _ _ _ _ _ (20, [some (.ref 21), some (.ref a)], [.int (S.2.1 1401 21), .ref b5, .ref a, .ref 21], h1, 0, 0) _
  obtain ⟨q9, hq10, hd11⟩ := Option.bind_eq_some_iff.mp hd; clear hd; have hd := hd11; clear hd11
  refine ar_cv ok_AL_add2 hk_AL_add rfl rfl (As := [.ref a, .ref b5, .int (S.2.1 1401 21)]) (ad := 21) (rest := []) rfl rfl (hR2.ob (hs_k hR2 (a := 21) rfl) (Nat.le_of_ble_eq_true rfl)) (Nat.le_of_ble_eq_true rfl) (c_AL14_add a b5 (S.2.1 1401 21) (hpI S 1402 21 ((S.2.1 1402 21) + 1)) h1 hR2 ha hk8 q9 hq10) (Nat.le_of_ble_eq_true rfl) (Nat.le_of_ble_eq_true rfl) (Nat.le_of_ble_eq_true rfl) (Nat.le_of_ble_eq_true rfl) (pc' := 23) rfl (fun r12 h14 z13 => ?_)
  obtain ⟨rfl, hR16, g17, e18⟩ := z13
  have f19 := hF.tr f4 g17
  show am_S _ _ _ _ _ _ _ (23, [some (.ref 21), some (.ref a)], [], h14, 1, 1200) _
  refine am_steps ok_AL_add2 1 (x' := (24, [some (.ref 21), some (.ref a)], [.int 1], h14, 1, 1200)) rfl (Nat.le_of_ble_eq_true rfl) (Nat.le_of_ble_eq_true rfl) ?_
  cases hd; exact am_ret ok_AL_add2 rfl (Nat.le_of_ble_eq_true rfl) (Nat.le_of_ble_eq_true rfl) ⟨rfl, hR16, f19, (hE.rf.tr e18)⟩
def hl_AL14_clear_27 : Nat → Option Nat → Int32 → Int32 → hS → Option (hS)
  | 0, _, _, _, _ => none
  | fu + 1, v1, v2, v3, s => if (v2 : Int32) ≤ v3 then (some s) else ((v1).bind fun b10 => ((am_ix v3 (hlq s.1 b10)).bind fun j14 => (hl_AL14_clear_27 fu v1 v2 (v3 + 1) (hpQ s b10 j14 none))))
set_option maxHeartbeats 4000000 in
set_option maxRecDepth 100000 in
theorem Lc_AL14_clear_27 {Q : Option Value → am_H → Prop} (sh0 : List (Nat × Nat)) (h0 : am_H) : ∀ (fu : Nat) (v1 : Option Nat) (v2 : Int32) (v3 : Int32) (s : hS) (h : am_H), RH s h → hF h0 h → hE sh0 s.1 → (∀ b, v1 = some b → hel s.1 b 29) → ∀ q : hS, hl_AL14_clear_27 fu v1 v2 v3 s = some q → (∀ h' : am_H, RH q h' → hF h0 h' → hE sh0 q.1 → am_S am_Pr none 0 0 0 0 232 (42, [none, some (va_rf v1), some (.int v2), none], [], h', 0, 0) Q) → am_S am_Pr none 0 0 0 0 232 (27, [none, some (va_rf v1), some (.int v2), some (.int v3)], [], h, 0, 0) Q := by
  intro fu
  induction fu with
  | zero => intro v1 v2 v3 s h hR f he hv1 q hd; cases hd
  | succ fu ih =>
    intro v1 v2 v3 s h hR f he hv1 q hd kk
    unfold hl_AL14_clear_27 at hd
    refine am_steps ok_AL_clear 3 (x' := (if (v2 : Int32) ≤ v3 then 42 else 32, [none, some (va_rf v1), some (.int v2), some (.int v3)], [], h, 0, 0)) rfl (Nat.le_of_ble_eq_true rfl) (Nat.le_of_ble_eq_true rfl) ?_
    refine am_if (fun hc9 => ?_) (fun hc9 => ?_)
    · rw [if_pos hc9] at hd
      refine am_drop 3 ?_
      cases hd; exact kk h hR f he 
    · rw [if_neg hc9] at hd
      refine hr_aloadn ok_AL_clear rfl rfl (pc' := 33) rfl (Nat.le_of_ble_eq_true rfl) (Nat.le_of_ble_eq_true rfl) ?_
      refine am_steps ok_AL_clear 2 (x' := (35, [none, some (va_rf v1), some (.int v2), some (.int v3)], [.null, .int v3, va_rf v1], h, 0, 0)) rfl (Nat.le_of_ble_eq_true rfl) (Nat.le_of_ble_eq_true rfl) ?_
      obtain ⟨b10, hb11, hd12⟩ := Option.bind_eq_some_iff.mp hd; clear hd; have hd := hd12; clear hd12
      have hk13 := hv1 b10 hb11
      rw [hb11]
      show am_S _ _ _ _ _ _ _ (35, [none, some (.ref b10), some (.int v2), some (.int v3)], [.null, .int v3, .ref b10], h, 0, 0) _
      obtain ⟨j14, hx15, hd16⟩ := Option.bind_eq_some_iff.mp hd; clear hd; have hd := hd16; clear hd16
      refine hr8_aastN (d0 := hd_AL_clear) rfl (by decide +kernel) (kd := 29) hR hk13 (by decide) hx15 (pc' := 36) rfl (fun h17 hR18 g19 => ?_)
      have f20 := hF.tr f g19
      refine am_steps ok_AL_clear 2 (x' := (27, [none, some (.ref b10), some (.int v2), some (.int (v3 + 1))], [], h17, 0, 0)) rfl (Nat.le_of_ble_eq_true rfl) (Nat.le_of_ble_eq_true rfl) ?_
      rw [show Value.ref b10 = va_rf v1 from (congrArg va_rf hb11).symm]
      exact ih v1 v2 (v3 + 1) (hpQ s b10 j14 none) h17 hR18 f20 he hv1 q hd kk
def h_AL14_clear  (S : hS) : Option (hS) := (hl_AL14_clear_27 100000 (S.2.2.2.1 1400 21) (S.2.1 1401 21) 0 (hpI (hpI S 1402 21 ((S.2.1 1402 21) + 1)) 1401 21 0)).bind fun q21 => (some q21)
set_option maxHeartbeats 4000000 in
set_option maxRecDepth 100000 in
theorem c_AL14_clear  (S : hS) (h0 : am_H) (hR : RH S h0)  (q : hS) (hd : h_AL14_clear  S = some q) : am_Me am_Pr none 0 0 0 0 232 [.ref 21] h0 (hQv q S.1 h0) := by
  refine am_enter (d := hd_AL_clear) rfl (by decide +kernel) (Nat.le_of_ble_eq_true rfl) ?_
  show am_S _ _ _ _ _ _ _ (0, [some (.ref 21), none, none, none], [], h0, 0, 0) _
  unfold h_AL14_clear at hd
  refine am_steps ok_AL_clear 2 (x' := (2, [some (.ref 21), none, none, none], [.ref 21, .ref 21], h0, 0, 0)) rfl (Nat.le_of_ble_eq_true rfl) (Nat.le_of_ble_eq_true rfl) ?_
  refine hr_get ok_AL_clear rfl hR (kd := 14) (hs_k hR (a := 21) rfl) rfl (Nat.le_of_ble_eq_true rfl) (Nat.le_of_ble_eq_true rfl) (v := .int (S.2.1 1402 21)) rfl (pc' := 5) rfl (Nat.le_of_ble_eq_true rfl) (Nat.le_of_ble_eq_true rfl) ?_
  refine am_steps ok_AL_clear 2 (x' := (7, [some (.ref 21), none, none, none], [.int ((S.2.1 1402 21) + 1), .ref 21], h0, 0, 0)) rfl (Nat.le_of_ble_eq_true rfl) (Nat.le_of_ble_eq_true rfl) ?_
  refine hr_put ok_AL_clear rfl hR (kd := 14) (hs_k hR (a := 21) rfl) rfl (Nat.le_of_ble_eq_true rfl) (Nat.le_of_ble_eq_true rfl) rfl (S' := (hpI S 1402 21 ((S.2.1 1402 21) + 1))) rfl (hWT.up hR.2.2 rfl rfl rfl) (pc' := 10) rfl (Nat.le_of_ble_eq_true rfl) (Nat.le_of_ble_eq_true rfl) (fun h1 hR2 g3 => ?_)
  have f4 := hF.tr hF.rf g3
  refine am_steps ok_AL_clear 1 (x' := (11, [some (.ref 21), none, none, none], [.ref 21], h1, 0, 0)) rfl (Nat.le_of_ble_eq_true rfl) (Nat.le_of_ble_eq_true rfl) ?_
  refine hr_get ok_AL_clear rfl hR2 (kd := 14) (hs_k hR2 (a := 21) rfl) rfl (Nat.le_of_ble_eq_true rfl) (Nat.le_of_ble_eq_true rfl) (v := va_rf (S.2.2.2.1 1400 21)) rfl (pc' := 14) rfl (Nat.le_of_ble_eq_true rfl) (Nat.le_of_ble_eq_true rfl) ?_
  refine hr_astoren ok_AL_clear rfl (Nat.le_of_ble_eq_true rfl) (lo' := [some (.ref 21), some (va_rf (S.2.2.2.1 1400 21)), none, none]) rfl (pc' := 15) rfl (Nat.le_of_ble_eq_true rfl) (Nat.le_of_ble_eq_true rfl) ?_
  refine am_steps ok_AL_clear 1 (x' := (16, [some (.ref 21), some (va_rf (S.2.2.2.1 1400 21)), none, none], [.ref 21], h1, 0, 0)) rfl (Nat.le_of_ble_eq_true rfl) (Nat.le_of_ble_eq_true rfl) ?_
  refine hr_get ok_AL_clear rfl hR2 (kd := 14) (hs_k hR2 (a := 21) rfl) rfl (Nat.le_of_ble_eq_true rfl) (Nat.le_of_ble_eq_true rfl) (v := .int (S.2.1 1401 21)) rfl (pc' := 19) rfl (Nat.le_of_ble_eq_true rfl) (Nat.le_of_ble_eq_true rfl) ?_
  refine hr_p1 ok_AL_clear rfl (y := (20, [some (.ref 21), some (va_rf (S.2.2.2.1 1400 21)), some (.int (S.2.1 1401 21)), none], [])) (by generalize (S.2.2.2.1 1400 21) = o; cases o <;> rfl) (Nat.le_of_ble_eq_true rfl) (Nat.le_of_ble_eq_true rfl) ?_
  refine am_steps ok_AL_clear 3 (x' := (23, [some (.ref 21), some (va_rf (S.2.2.2.1 1400 21)), some (.int (S.2.1 1401 21)), none], [.int 0, .ref 21, .int 0], h1, 0, 0)) rfl (Nat.le_of_ble_eq_true rfl) (Nat.le_of_ble_eq_true rfl) ?_
  refine hr_put ok_AL_clear rfl hR2 (kd := 14) (hs_k hR2 (a := 21) rfl) rfl (Nat.le_of_ble_eq_true rfl) (Nat.le_of_ble_eq_true rfl) rfl (S' := (hpI (hpI S 1402 21 ((S.2.1 1402 21) + 1)) 1401 21 0)) rfl (hWT.up hR2.2.2 rfl rfl rfl) (pc' := 26) rfl (Nat.le_of_ble_eq_true rfl) (Nat.le_of_ble_eq_true rfl) (fun h5 hR6 g7 => ?_)
  have f8 := hF.tr f4 g7
  refine am_steps ok_AL_clear 1 (x' := (27, [some (.ref 21), some (va_rf (S.2.2.2.1 1400 21)), some (.int (S.2.1 1401 21)), some (.int 0)], [], h5, 0, 0)) rfl (Nat.le_of_ble_eq_true rfl) (Nat.le_of_ble_eq_true rfl) ?_
  refine am_drop 0 ?_
  obtain ⟨q21, hq22, hd23⟩ := Option.bind_eq_some_iff.mp hd; clear hd; have hd := hd23; clear hd23
  refine Lc_AL14_clear_27 S.1 h0 100000 (S.2.2.2.1 1400 21) (S.2.1 1401 21) 0 (hpI (hpI S 1402 21 ((S.2.1 1402 21) + 1)) 1401 21 0) h5 hR6 f8 hE.rf (fun b hb => hR2.2.2.1 1400 _ b hb) q21 hq22 (fun h24 hR25 f26 e27 => ?_)
  show am_S _ _ _ _ _ _ _ (42, [none, some (va_rf (S.2.2.2.1 1400 21)), some (.int (S.2.1 1401 21)), none], [], h24, 0, 0) _
  cases hd; exact am_ret ok_AL_clear rfl (Nat.le_of_ble_eq_true rfl) (Nat.le_of_ble_eq_true rfl) ⟨rfl, hR25, f26, (hE.rf.tr e27)⟩
def hl_Ho_putOnTape_3 : Nat → Int32 → Int32 → hS → Option (hS)
  | 0, _, _, _ => none
  | fu + 1, v1, v2, s => if (v2 : Int32) < 0 then (some s) else (if (400 : Int32) ≤ (s.2.1 1 0) then (some s) else ((am_ix (s.2.1 1 0) 400).bind fun j3 => (hl_Ho_putOnTape_3 fu v1 (v2 + (-8)) (hpI (hpA s 1 j3 (am_bn 2 (Int8.toInt32 (Int32.toInt8 (v1 >>> (v2 &&& 31)))))) 1 0 ((s.2.1 1 0) + 1)))))
set_option maxHeartbeats 4000000 in
set_option maxRecDepth 100000 in
theorem Lc_Ho_putOnTape_3 {Q : Option Value → am_H → Prop} (sh0 : List (Nat × Nat)) (h0 : am_H) : ∀ (fu : Nat) (v1 : Int32) (v2 : Int32) (s : hS) (h : am_H), RH s h → hF h0 h → hE sh0 s.1 → ∀ q : hS, hl_Ho_putOnTape_3 fu v1 v2 s = some q → (∀ h' : am_H, RH q h' → hF h0 h' → hE sh0 q.1 → am_S am_Pr none 0 0 0 0 11 (46, [some (.ref 0), some (.int v1), none], [], h', 0, 0) Q) → am_S am_Pr none 0 0 0 0 11 (3, [some (.ref 0), some (.int v1), some (.int v2)], [], h, 0, 0) Q := by
  intro fu
  induction fu with
  | zero => intro v1 v2 s h hR f he  q hd; cases hd
  | succ fu ih =>
    intro v1 v2 s h hR f he  q hd kk
    unfold hl_Ho_putOnTape_3 at hd
    refine am_steps ok_Ho_putOnTape 2 (x' := (if (v2 : Int32) < 0 then 46 else 7, [some (.ref 0), some (.int v1), some (.int v2)], [], h, 0, 0)) rfl (Nat.le_of_ble_eq_true rfl) (Nat.le_of_ble_eq_true rfl) ?_
    refine am_if (fun hc1 => ?_) (fun hc1 => ?_)
    · rw [if_pos hc1] at hd
      refine am_drop 2 ?_
      cases hd; exact kk h hR f he 
    · rw [if_neg hc1] at hd
      refine am_steps ok_Ho_putOnTape 1 (x' := (8, [some (.ref 0), some (.int v1), some (.int v2)], [.ref 0], h, 0, 0)) rfl (Nat.le_of_ble_eq_true rfl) (Nat.le_of_ble_eq_true rfl) ?_
      refine hr_get ok_Ho_putOnTape rfl hR (kd := 0) (hs_k hR (a := 0) rfl) rfl (Nat.le_of_ble_eq_true rfl) (Nat.le_of_ble_eq_true rfl) (v := .int (s.2.1 1 0)) rfl (pc' := 11) rfl (Nat.le_of_ble_eq_true rfl) (Nat.le_of_ble_eq_true rfl) ?_
      refine am_steps ok_Ho_putOnTape 2 (x' := (if (400 : Int32) ≤ (s.2.1 1 0) then 46 else 17, [some (.ref 0), some (.int v1), some (.int v2)], [], h, 0, 0)) rfl (Nat.le_of_ble_eq_true rfl) (Nat.le_of_ble_eq_true rfl) ?_
      refine am_if (fun hc2 => ?_) (fun hc2 => ?_)
      · rw [if_pos hc2] at hd
        refine am_drop 2 ?_
        cases hd; exact kk h hR f he 
      · rw [if_neg hc2] at hd
        refine am_steps ok_Ho_putOnTape 1 (x' := (18, [some (.ref 0), some (.int v1), some (.int v2)], [.ref 0], h, 0, 0)) rfl (Nat.le_of_ble_eq_true rfl) (Nat.le_of_ble_eq_true rfl) ?_
        refine hr_get ok_Ho_putOnTape rfl hR (kd := 0) (hs_k hR (a := 0) rfl) rfl (Nat.le_of_ble_eq_true rfl) (Nat.le_of_ble_eq_true rfl) (v := .ref 1) (congrArg va_rf (hR.2.2.2.2.1 (0, 0, 1) (by decide))) (pc' := 21) rfl (Nat.le_of_ble_eq_true rfl) (Nat.le_of_ble_eq_true rfl) ?_
        refine am_steps ok_Ho_putOnTape 1 (x' := (22, [some (.ref 0), some (.int v1), some (.int v2)], [.ref 0, .ref 1], h, 0, 0)) rfl (Nat.le_of_ble_eq_true rfl) (Nat.le_of_ble_eq_true rfl) ?_
        refine hr_get ok_Ho_putOnTape rfl hR (kd := 0) (hs_k hR (a := 0) rfl) rfl (Nat.le_of_ble_eq_true rfl) (Nat.le_of_ble_eq_true rfl) (v := .int (s.2.1 1 0)) rfl (pc' := 25) rfl (Nat.le_of_ble_eq_true rfl) (Nat.le_of_ble_eq_true rfl) ?_
        refine am_steps ok_Ho_putOnTape 4 (x' := (29, [some (.ref 0), some (.int v1), some (.int v2)], [.int (Int8.toInt32 (Int32.toInt8 (v1 >>> (v2 &&& 31)))), .int (s.2.1 1 0), .ref 1], h, 0, 0)) rfl (Nat.le_of_ble_eq_true rfl) (Nat.le_of_ble_eq_true rfl) ?_
        obtain ⟨j3, hx4, hd5⟩ := Option.bind_eq_some_iff.mp hd; clear hd; have hd := hd5; clear hd5
        refine hr_bast ok_Ho_putOnTape rfl hR (kd := 22) (hs_k hR (a := 1) rfl) (by decide) (hs_ln hR rfl) hx4 (pc' := 30) rfl (Nat.le_of_ble_eq_true rfl) (Nat.le_of_ble_eq_true rfl) (fun h6 hR7 g8 => ?_)
        have f9 := hF.tr f g8
        refine am_steps ok_Ho_putOnTape 2 (x' := (32, [some (.ref 0), some (.int v1), some (.int v2)], [.ref 0, .ref 0], h6, 0, 0)) rfl (Nat.le_of_ble_eq_true rfl) (Nat.le_of_ble_eq_true rfl) ?_
        refine hr_get ok_Ho_putOnTape rfl hR7 (kd := 0) (hs_k hR7 (a := 0) rfl) rfl (Nat.le_of_ble_eq_true rfl) (Nat.le_of_ble_eq_true rfl) (v := .int (s.2.1 1 0)) rfl (pc' := 35) rfl (Nat.le_of_ble_eq_true rfl) (Nat.le_of_ble_eq_true rfl) ?_
        refine am_steps ok_Ho_putOnTape 2 (x' := (37, [some (.ref 0), some (.int v1), some (.int v2)], [.int ((s.2.1 1 0) + 1), .ref 0], h6, 0, 0)) rfl (Nat.le_of_ble_eq_true rfl) (Nat.le_of_ble_eq_true rfl) ?_
        refine hr_put ok_Ho_putOnTape rfl hR7 (kd := 0) (hs_k hR7 (a := 0) rfl) rfl (Nat.le_of_ble_eq_true rfl) (Nat.le_of_ble_eq_true rfl) rfl (S' := (hpI (hpA s 1 j3 (am_bn 2 (Int8.toInt32 (Int32.toInt8 (v1 >>> (v2 &&& 31)))))) 1 0 ((s.2.1 1 0) + 1))) rfl (hWT.up hR7.2.2 rfl rfl rfl) (pc' := 40) rfl (Nat.le_of_ble_eq_true rfl) (Nat.le_of_ble_eq_true rfl) (fun h10 hR11 g12 => ?_)
        have f13 := hF.tr f9 g12
        refine am_steps ok_Ho_putOnTape 2 (x' := (3, [some (.ref 0), some (.int v1), some (.int (v2 + (-8)))], [], h10, 0, 0)) rfl (Nat.le_of_ble_eq_true rfl) (Nat.le_of_ble_eq_true rfl) ?_
        exact ih v1 (v2 + (-8)) (hpI (hpA s 1 j3 (am_bn 2 (Int8.toInt32 (Int32.toInt8 (v1 >>> (v2 &&& 31)))))) 1 0 ((s.2.1 1 0) + 1)) h10 hR11 f13 he  q hd kk
def h_Ho_putOnTape (a : Int32) (S : hS) : Option (hS) := (hl_Ho_putOnTape_3 100000 a 24 S).bind fun q14 => (some q14)
set_option maxHeartbeats 4000000 in
set_option maxRecDepth 100000 in
theorem c_Ho_putOnTape (a : Int32) (S : hS) (h0 : am_H) (hR : RH S h0)  (q : hS) (hd : h_Ho_putOnTape a S = some q) : am_Me am_Pr none 0 0 0 0 11 [.ref 0, .int a] h0 (hQv q S.1 h0) := by
  refine am_enter (d := hd_Ho_putOnTape) rfl (by decide +kernel) (Nat.le_of_ble_eq_true rfl) ?_
  show am_S _ _ _ _ _ _ _ (0, [some (.ref 0), some (.int a), none], [], h0, 0, 0) _
  unfold h_Ho_putOnTape at hd
  refine am_steps ok_Ho_putOnTape 2 (x' := (3, [some (.ref 0), some (.int a), some (.int 24)], [], h0, 0, 0)) rfl (Nat.le_of_ble_eq_true rfl) (Nat.le_of_ble_eq_true rfl) ?_
  obtain ⟨q14, hq15, hd16⟩ := Option.bind_eq_some_iff.mp hd; clear hd; have hd := hd16; clear hd16
  refine Lc_Ho_putOnTape_3 S.1 h0 100000 a 24 S h0 hR hF.rf hE.rf  q14 hq15 (fun h17 hR18 f19 e20 => ?_)
  show am_S _ _ _ _ _ _ _ (46, [some (.ref 0), some (.int a), none], [], h17, 0, 0) _
  cases hd; exact am_ret ok_Ho_putOnTape rfl (Nat.le_of_ble_eq_true rfl) (Nat.le_of_ble_eq_true rfl) ⟨rfl, hR18, f19, (hE.rf.tr e20)⟩
def h_Ho_feed (a : Int32) (b : Int32) (c : Int32) (d : Int32) (e : Int32) (S : hS) : Option (Int32 × hS) := if (((S.2.1 1 0) + 20) : Int32) ≤ 400 then ((h_Ho_putOnTape a S).bind fun q2 => ((h_Ho_putOnTape b q2).bind fun q13 => ((h_Ho_putOnTape c q13).bind fun q24 => ((h_Ho_putOnTape d q24).bind fun q35 => ((h_Ho_putOnTape e q35).bind fun q46 => (some (1, q46))))))) else (some (0, S))
set_option maxHeartbeats 4000000 in
set_option maxRecDepth 100000 in
theorem c_Ho_feed (a : Int32) (b : Int32) (c : Int32) (d : Int32) (e : Int32) (S : hS) (h0 : am_H) (hR : RH S h0)  (q : Int32 × hS) (hd : h_Ho_feed a b c d e S = some q) : am_Me am_Pr none 1 22 0 0 1 [.ref 0, .int a, .int b, .int c, .int d, .int e] h0 (hQr (.int q.1) q.2 S.1 h0) := by
  refine am_enter (d := hd_Ho_feed) rfl (by decide +kernel) (Nat.le_of_ble_eq_true rfl) ?_
  show am_S _ _ _ _ _ _ _ (0, [some (.ref 0), some (.int a), some (.int b), some (.int c), some (.int d), some (.int e)], [], h0, 0, 0) _
  unfold h_Ho_feed at hd
  refine am_steps ok_Ho_feed 1 (x' := (1, [some (.ref 0), some (.int a), some (.int b), some (.int c), some (.int d), some (.int e)], [.ref 0], h0, 0, 0)) rfl (Nat.le_of_ble_eq_true rfl) (Nat.le_of_ble_eq_true rfl) ?_
  refine hr_get ok_Ho_feed rfl hR (kd := 0) (hs_k hR (a := 0) rfl) rfl (Nat.le_of_ble_eq_true rfl) (Nat.le_of_ble_eq_true rfl) (v := .int (S.2.1 1 0)) rfl (pc' := 4) rfl (Nat.le_of_ble_eq_true rfl) (Nat.le_of_ble_eq_true rfl) ?_
  refine am_steps ok_Ho_feed 4 (x' := (if (((S.2.1 1 0) + 20) : Int32) ≤ 400 then 15 else 13, [some (.ref 0), some (.int a), some (.int b), some (.int c), some (.int d), some (.int e)], [], h0, 0, 0)) rfl (Nat.le_of_ble_eq_true rfl) (Nat.le_of_ble_eq_true rfl) ?_
  refine am_if (fun hc1 => ?_) (fun hc1 => ?_)
  · rw [if_pos hc1] at hd
    refine am_steps ok_Ho_feed 2 (x' := (17, [some (.ref 0), some (.int a), some (.int b), some (.int c), some (.int d), some (.int e)], [.int a, .ref 0], h0, 0, 0)) rfl (Nat.le_of_ble_eq_true rfl) (Nat.le_of_ble_eq_true rfl) ?_
    obtain ⟨q2, hq3, hd4⟩ := Option.bind_eq_some_iff.mp hd; clear hd; have hd := hd4; clear hd4
    refine ar_cv ok_Ho_feed hk_Ho_putOnTape rfl rfl (As := [.int a]) (ad := 0) (rest := []) rfl rfl (hR.ob (hs_k hR (a := 0) rfl) (Nat.le_of_ble_eq_true rfl)) (Nat.le_of_ble_eq_true rfl) (c_Ho_putOnTape a S h0 hR  q2 hq3) (Nat.le_of_ble_eq_true rfl) (Nat.le_of_ble_eq_true rfl) (Nat.le_of_ble_eq_true rfl) (Nat.le_of_ble_eq_true rfl) (pc' := 20) rfl (fun r5 h7 z6 => ?_)
    obtain ⟨rfl, hR9, g10, e11⟩ := z6
    have f12 := hF.tr hF.rf g10
    show am_S _ _ _ _ _ _ _ (20, [some (.ref 0), some (.int a), some (.int b), some (.int c), some (.int d), some (.int e)], [], h7, 0, 0) _
    refine am_steps ok_Ho_feed 2 (x' := (22, [some (.ref 0), some (.int a), some (.int b), some (.int c), some (.int d), some (.int e)], [.int b, .ref 0], h7, 0, 0)) rfl (Nat.le_of_ble_eq_true rfl) (Nat.le_of_ble_eq_true rfl) ?_
    obtain ⟨q13, hq14, hd15⟩ := Option.bind_eq_some_iff.mp hd; clear hd; have hd := hd15; clear hd15
    refine ar_cv ok_Ho_feed hk_Ho_putOnTape rfl rfl (As := [.int b]) (ad := 0) (rest := []) rfl rfl (hR9.ob (hs_k hR9 (a := 0) rfl) (Nat.le_of_ble_eq_true rfl)) (Nat.le_of_ble_eq_true rfl) (c_Ho_putOnTape b q2 h7 hR9  q13 hq14) (Nat.le_of_ble_eq_true rfl) (Nat.le_of_ble_eq_true rfl) (Nat.le_of_ble_eq_true rfl) (Nat.le_of_ble_eq_true rfl) (pc' := 25) rfl (fun r16 h18 z17 => ?_)
    obtain ⟨rfl, hR20, g21, e22⟩ := z17
    have f23 := hF.tr f12 g21
    show am_S _ _ _ _ _ _ _ (25, [some (.ref 0), some (.int a), some (.int b), some (.int c), some (.int d), some (.int e)], [], h18, 0, 0) _
    refine am_steps ok_Ho_feed 2 (x' := (27, [some (.ref 0), some (.int a), some (.int b), some (.int c), some (.int d), some (.int e)], [.int c, .ref 0], h18, 0, 0)) rfl (Nat.le_of_ble_eq_true rfl) (Nat.le_of_ble_eq_true rfl) ?_
    obtain ⟨q24, hq25, hd26⟩ := Option.bind_eq_some_iff.mp hd; clear hd; have hd := hd26; clear hd26
    refine ar_cv ok_Ho_feed hk_Ho_putOnTape rfl rfl (As := [.int c]) (ad := 0) (rest := []) rfl rfl (hR20.ob (hs_k hR20 (a := 0) rfl) (Nat.le_of_ble_eq_true rfl)) (Nat.le_of_ble_eq_true rfl) (c_Ho_putOnTape c q13 h18 hR20  q24 hq25) (Nat.le_of_ble_eq_true rfl) (Nat.le_of_ble_eq_true rfl) (Nat.le_of_ble_eq_true rfl) (Nat.le_of_ble_eq_true rfl) (pc' := 30) rfl (fun r27 h29 z28 => ?_)
    obtain ⟨rfl, hR31, g32, e33⟩ := z28
    have f34 := hF.tr f23 g32
    show am_S _ _ _ _ _ _ _ (30, [some (.ref 0), some (.int a), some (.int b), some (.int c), some (.int d), some (.int e)], [], h29, 0, 0) _
    refine am_steps ok_Ho_feed 2 (x' := (33, [some (.ref 0), some (.int a), some (.int b), some (.int c), some (.int d), some (.int e)], [.int d, .ref 0], h29, 0, 0)) rfl (Nat.le_of_ble_eq_true rfl) (Nat.le_of_ble_eq_true rfl) ?_
    obtain ⟨q35, hq36, hd37⟩ := Option.bind_eq_some_iff.mp hd; clear hd; have hd := hd37; clear hd37
    refine ar_cv ok_Ho_feed hk_Ho_putOnTape rfl rfl (As := [.int d]) (ad := 0) (rest := []) rfl rfl (hR31.ob (hs_k hR31 (a := 0) rfl) (Nat.le_of_ble_eq_true rfl)) (Nat.le_of_ble_eq_true rfl) (c_Ho_putOnTape d q24 h29 hR31  q35 hq36) (Nat.le_of_ble_eq_true rfl) (Nat.le_of_ble_eq_true rfl) (Nat.le_of_ble_eq_true rfl) (Nat.le_of_ble_eq_true rfl) (pc' := 36) rfl (fun r38 h40 z39 => ?_)
    obtain ⟨rfl, hR42, g43, e44⟩ := z39
    have f45 := hF.tr f34 g43
    show am_S _ _ _ _ _ _ _ (36, [some (.ref 0), some (.int a), some (.int b), some (.int c), some (.int d), some (.int e)], [], h40, 0, 0) _
    refine am_steps ok_Ho_feed 2 (x' := (39, [some (.ref 0), some (.int a), some (.int b), some (.int c), some (.int d), some (.int e)], [.int e, .ref 0], h40, 0, 0)) rfl (Nat.le_of_ble_eq_true rfl) (Nat.le_of_ble_eq_true rfl) ?_
    obtain ⟨q46, hq47, hd48⟩ := Option.bind_eq_some_iff.mp hd; clear hd; have hd := hd48; clear hd48
    refine ar_cv ok_Ho_feed hk_Ho_putOnTape rfl rfl (As := [.int e]) (ad := 0) (rest := []) rfl rfl (hR42.ob (hs_k hR42 (a := 0) rfl) (Nat.le_of_ble_eq_true rfl)) (Nat.le_of_ble_eq_true rfl) (c_Ho_putOnTape e q35 h40 hR42  q46 hq47) (Nat.le_of_ble_eq_true rfl) (Nat.le_of_ble_eq_true rfl) (Nat.le_of_ble_eq_true rfl) (Nat.le_of_ble_eq_true rfl) (pc' := 42) rfl (fun r49 h51 z50 => ?_)
    obtain ⟨rfl, hR53, g54, e55⟩ := z50
    have f56 := hF.tr f45 g54
    show am_S _ _ _ _ _ _ _ (42, [some (.ref 0), some (.int a), some (.int b), some (.int c), some (.int d), some (.int e)], [], h51, 0, 0) _
    refine am_steps ok_Ho_feed 1 (x' := (43, [some (.ref 0), some (.int a), some (.int b), some (.int c), some (.int d), some (.int e)], [.int 1], h51, 0, 0)) rfl (Nat.le_of_ble_eq_true rfl) (Nat.le_of_ble_eq_true rfl) ?_
    cases hd; exact am_ret ok_Ho_feed rfl (Nat.le_of_ble_eq_true rfl) (Nat.le_of_ble_eq_true rfl) ⟨rfl, hR53, f56, (((((hE.rf.tr e11).tr e22).tr e33).tr e44).tr e55)⟩
  · rw [if_neg hc1] at hd
    refine am_steps ok_Ho_feed 1 (x' := (14, [some (.ref 0), some (.int a), some (.int b), some (.int c), some (.int d), some (.int e)], [.int 0], h0, 0, 0)) rfl (Nat.le_of_ble_eq_true rfl) (Nat.le_of_ble_eq_true rfl) ?_
    cases hd; exact am_ret ok_Ho_feed rfl (Nat.le_of_ble_eq_true rfl) (Nat.le_of_ble_eq_true rfl) ⟨rfl, hR, hF.rf, hE.rf⟩
def h_An_clear  (S : hS) : Option (hS) := some (hpI (hpI S 201 7 0) 202 7 0)
set_option maxHeartbeats 4000000 in
set_option maxRecDepth 100000 in
theorem c_An_clear  (S : hS) (h0 : am_H) (hR : RH S h0)  (q : hS) (hd : h_An_clear  S = some q) : am_Me am_Pr none 0 0 0 0 97 [.ref 7] h0 (hQv q S.1 h0) := by
  refine am_enter (d := hd_An_clear) rfl (by decide +kernel) (Nat.le_of_ble_eq_true rfl) ?_
  show am_S _ _ _ _ _ _ _ (0, [some (.ref 7)], [], h0, 0, 0) _
  unfold h_An_clear at hd
  refine am_steps ok_An_clear 2 (x' := (2, [some (.ref 7)], [.int 0, .ref 7], h0, 0, 0)) rfl (Nat.le_of_ble_eq_true rfl) (Nat.le_of_ble_eq_true rfl) ?_
  refine hr_put ok_An_clear rfl hR (kd := 2) (hs_k hR (a := 7) rfl) rfl (Nat.le_of_ble_eq_true rfl) (Nat.le_of_ble_eq_true rfl) rfl (S' := (hpI S 201 7 0)) rfl (hWT.up hR.2.2 rfl rfl rfl) (pc' := 5) rfl (Nat.le_of_ble_eq_true rfl) (Nat.le_of_ble_eq_true rfl) (fun h1 hR2 g3 => ?_)
  have f4 := hF.tr hF.rf g3
  refine am_steps ok_An_clear 2 (x' := (7, [some (.ref 7)], [.int 0, .ref 7], h1, 0, 0)) rfl (Nat.le_of_ble_eq_true rfl) (Nat.le_of_ble_eq_true rfl) ?_
  refine hr_put ok_An_clear rfl hR2 (kd := 2) (hs_k hR2 (a := 7) rfl) rfl (Nat.le_of_ble_eq_true rfl) (Nat.le_of_ble_eq_true rfl) rfl (S' := (hpI (hpI S 201 7 0) 202 7 0)) rfl (hWT.up hR2.2.2 rfl rfl rfl) (pc' := 10) rfl (Nat.le_of_ble_eq_true rfl) (Nat.le_of_ble_eq_true rfl) (fun h5 hR6 g7 => ?_)
  have f8 := hF.tr f4 g7
  cases hd; exact am_ret ok_An_clear rfl (Nat.le_of_ble_eq_true rfl) (Nat.le_of_ble_eq_true rfl) ⟨rfl, hR6, f8, hE.rf⟩
def h_Me_isDigit (a : Int32) : Option (Int32) := if (a : Int32) < 48 then (some 0) else (if (57 : Int32) < a then (some 0) else (some 1))
set_option maxHeartbeats 4000000 in
set_option maxRecDepth 100000 in
theorem c_Me_isDigit (a : Int32) (h0 : am_H) (q : Int32) (hd : h_Me_isDigit a = some q) : am_Me am_Pr none 0 0 0 0 201 [.int a] h0 (am_is (some (.int q)) h0) := by
  refine am_enter (d := hd_Me_isDigit) rfl (by decide +kernel) (Nat.le_of_ble_eq_true rfl) ?_
  show am_S _ _ _ _ _ _ _ (0, [some (.int a)], [], h0, 0, 0) _
  unfold h_Me_isDigit at hd
  refine am_steps ok_Me_isDigit 3 (x' := (if (a : Int32) < 48 then 16 else 6, [some (.int a)], [], h0, 0, 0)) rfl (Nat.le_of_ble_eq_true rfl) (Nat.le_of_ble_eq_true rfl) ?_
  refine am_if (fun hc1 => ?_) (fun hc1 => ?_)
  · rw [if_pos hc1] at hd
    refine am_steps ok_Me_isDigit 1 (x' := (17, [some (.int a)], [.int 0], h0, 0, 0)) rfl (Nat.le_of_ble_eq_true rfl) (Nat.le_of_ble_eq_true rfl) ?_
    cases hd; exact am_ret ok_Me_isDigit rfl (Nat.le_of_ble_eq_true rfl) (Nat.le_of_ble_eq_true rfl) ⟨rfl, rfl⟩
  · rw [if_neg hc1] at hd
    refine am_steps ok_Me_isDigit 3 (x' := (if (57 : Int32) < a then 16 else 12, [some (.int a)], [], h0, 0, 0)) rfl (Nat.le_of_ble_eq_true rfl) (Nat.le_of_ble_eq_true rfl) ?_
    refine am_if (fun hc2 => ?_) (fun hc2 => ?_)
    · rw [if_pos hc2] at hd
      refine am_steps ok_Me_isDigit 1 (x' := (17, [some (.int a)], [.int 0], h0, 0, 0)) rfl (Nat.le_of_ble_eq_true rfl) (Nat.le_of_ble_eq_true rfl) ?_
      cases hd; exact am_ret ok_Me_isDigit rfl (Nat.le_of_ble_eq_true rfl) (Nat.le_of_ble_eq_true rfl) ⟨rfl, rfl⟩
    · rw [if_neg hc2] at hd
      refine am_steps ok_Me_isDigit 2 (x' := (17, [some (.int a)], [.int 1], h0, 0, 0)) rfl (Nat.le_of_ble_eq_true rfl) (Nat.le_of_ble_eq_true rfl) ?_
      cases hd; exact am_ret ok_Me_isDigit rfl (Nat.le_of_ble_eq_true rfl) (Nat.le_of_ble_eq_true rfl) ⟨rfl, rfl⟩
def hl_Me_hasLettersAndDigitsAlone_2 : Nat → Int32 → hS → Option (Int32)
  | 0, _, _ => none
  | fu + 1, v1, s => if ((s.2.1 801 2) : Int32) ≤ v1 then (some 1) else ((am_ix v1 400).bind fun j2 => ((h_Me_isDigit (s.2.2.2.2.1 1 j2)).bind fun q5 => (if ¬ (q5 : Int32) = 0 then (hl_Me_hasLettersAndDigitsAlone_2 fu (v1 + 1) s) else (if ((s.2.2.2.2.1 1 j2) : Int32) < 65 then (some 0) else (if ((s.2.2.2.2.1 1 j2) : Int32) ≤ 90 then (hl_Me_hasLettersAndDigitsAlone_2 fu (v1 + 1) s) else (some 0))))))
set_option maxHeartbeats 4000000 in
set_option maxRecDepth 100000 in
theorem Lc_Me_hasLettersAndDigitsAlone_2 (s : hS) (h : am_H) (hR : RH s h) : ∀ (fu : Nat) (v1 : Int32), ∀ (q : Int32), hl_Me_hasLettersAndDigitsAlone_2 fu v1 s = some q → am_S am_Pr none 1 20 0 0 189 (2, [some (.ref 2), some (.int v1)], [], h, 0, 0) (am_is (some (.int q)) h) := by
  intro fu
  induction fu with
  | zero => intro v1  q hd; cases hd
  | succ fu ih =>
    intro v1  q hd
    unfold hl_Me_hasLettersAndDigitsAlone_2 at hd
    refine am_steps ok_Me_hasLettersAndDigitsAlone 2 (x' := (4, [some (.ref 2), some (.int v1)], [.ref 2, .int v1], h, 0, 0)) rfl (Nat.le_of_ble_eq_true rfl) (Nat.le_of_ble_eq_true rfl) ?_
    refine hr_get ok_Me_hasLettersAndDigitsAlone rfl hR (kd := 8) (hs_k hR (a := 2) rfl) rfl (Nat.le_of_ble_eq_true rfl) (Nat.le_of_ble_eq_true rfl) (v := .int (s.2.1 801 2)) rfl (pc' := 7) rfl (Nat.le_of_ble_eq_true rfl) (Nat.le_of_ble_eq_true rfl) ?_
    refine am_steps ok_Me_hasLettersAndDigitsAlone 1 (x' := (if ((s.2.1 801 2) : Int32) ≤ v1 then 52 else 10, [some (.ref 2), some (.int v1)], [], h, 0, 0)) rfl (Nat.le_of_ble_eq_true rfl) (Nat.le_of_ble_eq_true rfl) ?_
    refine am_if (fun hc1 => ?_) (fun hc1 => ?_)
    · rw [if_pos hc1] at hd
      refine am_steps ok_Me_hasLettersAndDigitsAlone 1 (x' := (53, [some (.ref 2), some (.int v1)], [.int 1], h, 0, 0)) rfl (Nat.le_of_ble_eq_true rfl) (Nat.le_of_ble_eq_true rfl) ?_
      cases hd; exact am_ret ok_Me_hasLettersAndDigitsAlone rfl (Nat.le_of_ble_eq_true rfl) (Nat.le_of_ble_eq_true rfl) ⟨rfl, rfl⟩
    · rw [if_neg hc1] at hd
      refine am_steps ok_Me_hasLettersAndDigitsAlone 1 (x' := (11, [some (.ref 2), some (.int v1)], [.ref 2], h, 0, 0)) rfl (Nat.le_of_ble_eq_true rfl) (Nat.le_of_ble_eq_true rfl) ?_
      refine hr_get ok_Me_hasLettersAndDigitsAlone rfl hR (kd := 8) (hs_k hR (a := 2) rfl) rfl (Nat.le_of_ble_eq_true rfl) (Nat.le_of_ble_eq_true rfl) (v := .ref 1) (congrArg va_rf (hR.2.2.2.2.1 (800, 2, 1) (by decide))) (pc' := 14) rfl (Nat.le_of_ble_eq_true rfl) (Nat.le_of_ble_eq_true rfl) ?_
      refine am_steps ok_Me_hasLettersAndDigitsAlone 1 (x' := (15, [some (.ref 2), some (.int v1)], [.int v1, .ref 1], h, 0, 0)) rfl (Nat.le_of_ble_eq_true rfl) (Nat.le_of_ble_eq_true rfl) ?_
      obtain ⟨j2, hx3, hd4⟩ := Option.bind_eq_some_iff.mp hd; clear hd; have hd := hd4; clear hd4
      refine hr_bald ok_Me_hasLettersAndDigitsAlone rfl hR (kd := 22) (hs_k hR (a := 1) rfl) (by decide) (hs_ln hR rfl) hx3 (pc' := 16) rfl (Nat.le_of_ble_eq_true rfl) (Nat.le_of_ble_eq_true rfl) ?_
      obtain ⟨q5, hq6, hd7⟩ := Option.bind_eq_some_iff.mp hd; clear hd; have hd := hd7; clear hd7
      refine am_call ok_Me_hasLettersAndDigitsAlone hk_Me_isDigit rfl (args' := [.int (s.2.2.2.2.1 1 j2)]) (rest := []) rfl (c_Me_isDigit (s.2.2.2.2.1 1 j2) h q5 hq6) (Nat.le_of_ble_eq_true rfl) (Nat.le_of_ble_eq_true rfl) (Nat.le_of_ble_eq_true rfl) (Nat.le_of_ble_eq_true rfl) (fun r8 h10 z9 => ?_)
      obtain ⟨rfl, z12⟩ := z9; rw [z12]
      show am_S _ _ _ _ _ _ _ (19, [some (.ref 2), some (.int v1)], [.int q5], h, 0, 0) _
      refine am_steps ok_Me_hasLettersAndDigitsAlone 1 (x' := (if ¬ (q5 : Int32) = 0 then 46 else 22, [some (.ref 2), some (.int v1)], [], h, 0, 0)) rfl (Nat.le_of_ble_eq_true rfl) (Nat.le_of_ble_eq_true rfl) ?_
      refine am_if (fun hc13 => ?_) (fun hc13 => ?_)
      · rw [if_pos hc13] at hd
        refine am_steps ok_Me_hasLettersAndDigitsAlone 2 (x' := (2, [some (.ref 2), some (.int (v1 + 1))], [], h, 0, 0)) rfl (Nat.le_of_ble_eq_true rfl) (Nat.le_of_ble_eq_true rfl) ?_
        exact ih (v1 + 1)  q hd
      · rw [if_neg hc13] at hd
        refine am_steps ok_Me_hasLettersAndDigitsAlone 1 (x' := (23, [some (.ref 2), some (.int v1)], [.ref 2], h, 0, 0)) rfl (Nat.le_of_ble_eq_true rfl) (Nat.le_of_ble_eq_true rfl) ?_
        refine hr_get ok_Me_hasLettersAndDigitsAlone rfl hR (kd := 8) (hs_k hR (a := 2) rfl) rfl (Nat.le_of_ble_eq_true rfl) (Nat.le_of_ble_eq_true rfl) (v := .ref 1) (congrArg va_rf (hR.2.2.2.2.1 (800, 2, 1) (by decide))) (pc' := 26) rfl (Nat.le_of_ble_eq_true rfl) (Nat.le_of_ble_eq_true rfl) ?_
        refine am_steps ok_Me_hasLettersAndDigitsAlone 1 (x' := (27, [some (.ref 2), some (.int v1)], [.int v1, .ref 1], h, 0, 0)) rfl (Nat.le_of_ble_eq_true rfl) (Nat.le_of_ble_eq_true rfl) ?_
        refine hr_bald ok_Me_hasLettersAndDigitsAlone rfl hR (kd := 22) (hs_k hR (a := 1) rfl) (by decide) (hs_ln hR rfl) hx3 (pc' := 28) rfl (Nat.le_of_ble_eq_true rfl) (Nat.le_of_ble_eq_true rfl) ?_
        refine am_steps ok_Me_hasLettersAndDigitsAlone 2 (x' := (if ((s.2.2.2.2.1 1 j2) : Int32) < 65 then 44 else 33, [some (.ref 2), some (.int v1)], [], h, 0, 0)) rfl (Nat.le_of_ble_eq_true rfl) (Nat.le_of_ble_eq_true rfl) ?_
        refine am_if (fun hc14 => ?_) (fun hc14 => ?_)
        · rw [if_pos hc14] at hd
          refine am_steps ok_Me_hasLettersAndDigitsAlone 1 (x' := (45, [some (.ref 2), some (.int v1)], [.int 0], h, 0, 0)) rfl (Nat.le_of_ble_eq_true rfl) (Nat.le_of_ble_eq_true rfl) ?_
          cases hd; exact am_ret ok_Me_hasLettersAndDigitsAlone rfl (Nat.le_of_ble_eq_true rfl) (Nat.le_of_ble_eq_true rfl) ⟨rfl, rfl⟩
        · rw [if_neg hc14] at hd
          refine am_steps ok_Me_hasLettersAndDigitsAlone 1 (x' := (34, [some (.ref 2), some (.int v1)], [.ref 2], h, 0, 0)) rfl (Nat.le_of_ble_eq_true rfl) (Nat.le_of_ble_eq_true rfl) ?_
          refine hr_get ok_Me_hasLettersAndDigitsAlone rfl hR (kd := 8) (hs_k hR (a := 2) rfl) rfl (Nat.le_of_ble_eq_true rfl) (Nat.le_of_ble_eq_true rfl) (v := .ref 1) (congrArg va_rf (hR.2.2.2.2.1 (800, 2, 1) (by decide))) (pc' := 37) rfl (Nat.le_of_ble_eq_true rfl) (Nat.le_of_ble_eq_true rfl) ?_
          refine am_steps ok_Me_hasLettersAndDigitsAlone 1 (x' := (38, [some (.ref 2), some (.int v1)], [.int v1, .ref 1], h, 0, 0)) rfl (Nat.le_of_ble_eq_true rfl) (Nat.le_of_ble_eq_true rfl) ?_
          refine hr_bald ok_Me_hasLettersAndDigitsAlone rfl hR (kd := 22) (hs_k hR (a := 1) rfl) (by decide) (hs_ln hR rfl) hx3 (pc' := 39) rfl (Nat.le_of_ble_eq_true rfl) (Nat.le_of_ble_eq_true rfl) ?_
          refine am_steps ok_Me_hasLettersAndDigitsAlone 2 (x' := (if ((s.2.2.2.2.1 1 j2) : Int32) ≤ 90 then 46 else 44, [some (.ref 2), some (.int v1)], [], h, 0, 0)) rfl (Nat.le_of_ble_eq_true rfl) (Nat.le_of_ble_eq_true rfl) ?_
          refine am_if (fun hc15 => ?_) (fun hc15 => ?_)
          · rw [if_pos hc15] at hd
            refine am_steps ok_Me_hasLettersAndDigitsAlone 2 (x' := (2, [some (.ref 2), some (.int (v1 + 1))], [], h, 0, 0)) rfl (Nat.le_of_ble_eq_true rfl) (Nat.le_of_ble_eq_true rfl) ?_
            exact ih (v1 + 1)  q hd
          · rw [if_neg hc15] at hd
            refine am_steps ok_Me_hasLettersAndDigitsAlone 1 (x' := (45, [some (.ref 2), some (.int v1)], [.int 0], h, 0, 0)) rfl (Nat.le_of_ble_eq_true rfl) (Nat.le_of_ble_eq_true rfl) ?_
            cases hd; exact am_ret ok_Me_hasLettersAndDigitsAlone rfl (Nat.le_of_ble_eq_true rfl) (Nat.le_of_ble_eq_true rfl) ⟨rfl, rfl⟩
def h_Me_hasLettersAndDigitsAlone  (S : hS) : Option (Int32) := hl_Me_hasLettersAndDigitsAlone_2 100000 0 S
set_option maxHeartbeats 4000000 in
set_option maxRecDepth 100000 in
theorem c_Me_hasLettersAndDigitsAlone  (S : hS) (h0 : am_H) (hR : RH S h0)  (q : Int32) (hd : h_Me_hasLettersAndDigitsAlone  S = some q) : am_Me am_Pr none 1 20 0 0 189 [.ref 2] h0 (am_is (some (.int q)) h0) := by
  refine am_enter (d := hd_Me_hasLettersAndDigitsAlone) rfl (by decide +kernel) (Nat.le_of_ble_eq_true rfl) ?_
  show am_S _ _ _ _ _ _ _ (0, [some (.ref 2), none], [], h0, 0, 0) _
  unfold h_Me_hasLettersAndDigitsAlone at hd
  refine am_steps ok_Me_hasLettersAndDigitsAlone 2 (x' := (2, [some (.ref 2), some (.int 0)], [], h0, 0, 0)) rfl (Nat.le_of_ble_eq_true rfl) (Nat.le_of_ble_eq_true rfl) ?_
  exact Lc_Me_hasLettersAndDigitsAlone_2 S h0 hR 100000 0  q hd
def h_Me_valueOf (a : Int32) : Option (Int32) := if (57 : Int32) < a then (some ((a - 65) + 10)) else (some (a - 48))
set_option maxHeartbeats 4000000 in
set_option maxRecDepth 100000 in
theorem c_Me_valueOf (a : Int32) (h0 : am_H) (q : Int32) (hd : h_Me_valueOf a = some q) : am_Me am_Pr none 0 0 0 0 202 [.int a] h0 (am_is (some (.int q)) h0) := by
  refine am_enter (d := hd_Me_valueOf) rfl (by decide +kernel) (Nat.le_of_ble_eq_true rfl) ?_
  show am_S _ _ _ _ _ _ _ (0, [some (.int a)], [], h0, 0, 0) _
  unfold h_Me_valueOf at hd
  refine am_steps ok_Me_valueOf 3 (x' := (if (57 : Int32) < a then 13 else 6, [some (.int a)], [], h0, 0, 0)) rfl (Nat.le_of_ble_eq_true rfl) (Nat.le_of_ble_eq_true rfl) ?_
  refine am_if (fun hc1 => ?_) (fun hc1 => ?_)
  · rw [if_pos hc1] at hd
    refine am_steps ok_Me_valueOf 5 (x' := (20, [some (.int a)], [.int ((a - 65) + 10)], h0, 0, 0)) rfl (Nat.le_of_ble_eq_true rfl) (Nat.le_of_ble_eq_true rfl) ?_
    cases hd; exact am_ret ok_Me_valueOf rfl (Nat.le_of_ble_eq_true rfl) (Nat.le_of_ble_eq_true rfl) ⟨rfl, rfl⟩
  · rw [if_neg hc1] at hd
    refine am_steps ok_Me_valueOf 4 (x' := (20, [some (.int a)], [.int (a - 48)], h0, 0, 0)) rfl (Nat.le_of_ble_eq_true rfl) (Nat.le_of_ble_eq_true rfl) ?_
    cases hd; exact am_ret ok_Me_valueOf rfl (Nat.le_of_ble_eq_true rfl) (Nat.le_of_ble_eq_true rfl) ⟨rfl, rfl⟩
