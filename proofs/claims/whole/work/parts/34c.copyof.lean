/-! Arrays.copyOf of the rows of the two kinds of lists. -/
set_option maxHeartbeats 4000000 in
set_option maxRecDepth 100000 in
theorem c_copyOf3_28 (b : Nat) (n : Int32) (S : hS) (h0 : am_H) (hR : RH S h0) (hb : hel S.1 b 28) (q : Nat × hS) (hd : h_copyOf 28 400 b n S = some q) : am_Me am_Pr none 1 21 1 400 252 [.ref b, .int n, .ref (am_M + 5)] h0 (hQo (.ref q.1) (some q.1) 28 q.2 S.1 h0) := by
  unfold h_copyOf at hd
  split at hd
  · cases hd
  rename_i hne
  obtain ⟨N, hN, hd⟩ := Option.bind_eq_some_iff.mp hd
  obtain ⟨a, ha, hd⟩ := Option.bind_eq_some_iff.mp hd
  cases hd
  have hbk : hK S.1 b 28 := hb.resolve_left (fun z => hne (Or.inl z))
  have hlM : hln S.1 b ≤ 400 := Nat.not_lt.mp fun z => hne (Or.inr z)
  have hNM := hs_nl3 hN
  have hn0 := hs_nl1 hN
  have hn2 := hs_nl2 hN
  obtain ⟨m1, m2, m3⟩ := hmin_ok (n := n) (l := hln S.1 b) (by omega) hn0
  have z0 : (0 : Int32).toNatClampNeg = 0 := by decide
  refine am_enter (d := hd_Arrays_copyOf2) rfl (by decide +kernel) (Nat.le_of_ble_eq_true rfl) ?_
  show am_S _ _ _ _ _ _ _ (0, [some (.ref b), some (.int n), some (.ref (am_M + 5)), none], [], h0, 0, 0) _
  refine am_steps ok_Arrays_copyOf2 1 (x' := (1, [some (.ref b), some (.int n), some (.ref (am_M + 5)), none], [.ref (am_M + 5)], h0, 0, 0)) rfl (Nat.le_of_ble_eq_true rfl) (Nat.le_of_ble_eq_true rfl) ?_
  refine ao_ldcM (d0 := hd_Arrays_copyOf2) rfl (x := 110) (a := 962) (by decide +kernel) (by decide +kernel) (pc' := 3) rfl ?_
  refine ao_acne (d0 := hd_Arrays_copyOf2) rfl (off := 10) (by decide +kernel) (by decide) (pc' := 6) rfl ?_
  refine am_steps ok_Arrays_copyOf2 1 (x' := (7, [some (.ref b), some (.int n), some (.ref (am_M + 5)), none], [.int n], h0, 0, 0)) rfl (Nat.le_of_ble_eq_true rfl) (Nat.le_of_ble_eq_true rfl) ?_
  refine hr8_anew (d0 := hd_Arrays_copyOf2) rfl (x := 2) (a := 964) (kd := 28) (by decide +kernel) (by decide +kernel) hR (by decide) hn0 hn2 (by omega) (hs_al1 ha) (hs_al2 ha) (pc' := 10) rfl (k' := 1) rfl (n' := 0 + N) rfl (Nat.le_refl _) (by omega) (fun h1 hR1 f1 => ?_)
  have hak : hK (hNew S 28 N).1 a 28 := hs_al3 ha (hNew_K S 28 N)
  have hal : hln (hNew S 28 N).1 a = N := by rw [← hs_al2 ha]; exact hNew_ln S 28 N
  have hb1 : hK (hNew S 28 N).1 b 28 := hbk.up (hNew_E S 28 N)
  have hbl : hln (hNew S 28 N).1 b = hln S.1 b := (hNew_E S 28 N).ln hbk
  have hcb : h1[b]? = some (.inl (8, hln S.1 b, .inr (.inr (.inr (.inr ((hNew S 28 N).2.2.2.2.2.2 b)))))) := by rw [← hbl]; exact hR1.aq hb1 (by decide)
  have hca : h1[a]? = some (.inl (8, N, .inr (.inr (.inr (.inr ((hNew S 28 N).2.2.2.2.2.2 a)))))) := by
    have := hR1.aq hak (by decide)
    rw [hal] at this; exact this
  refine am_steps ok_Arrays_copyOf2 7 (x' := (30, [some (.ref b), some (.int n), some (.ref (am_M + 5)), some (.ref a)], [.ref b, .int 0, .ref a, .int 0, .ref b], h1, 1, 0 + N)) rfl (Nat.le_refl _) (by show 0 + N ≤ _; omega) ?_
  refine ao_alenQ (d0 := hd_Arrays_copyOf2) rfl (by decide +kernel) hcb (w := Int32.ofNat (hln S.1 b)) rfl (pc' := 31) rfl ?_
  refine am_steps ok_Arrays_copyOf2 1 (x' := (32, [some (.ref b), some (.int n), some (.ref (am_M + 5)), some (.ref a)], [.int n, .int (Int32.ofNat (hln S.1 b)), .int 0, .ref a, .int 0, .ref b], h1, 1, 0 + N)) rfl (Nat.le_refl _) (by show 0 + N ≤ _; omega) ?_
  refine ar_min ok_Arrays_copyOf2 rfl (w := hmin n (hln S.1 b)) rfl (Nat.le_of_ble_eq_true rfl) (Nat.le_of_ble_eq_true rfl) (Nat.le_refl _) (by omega) (pc' := 35) rfl ?_
  refine ao_copyqO (d0 := hd_Arrays_copyOf2) rfl (x := 150) (w0 := 966) (w1 := 898) (w2 := 897) (w3 := 142) (b := 10) (by decide +kernel) (by decide +kernel) (by decide +kernel) (by decide +kernel) (by decide +kernel) rfl (by decide +kernel) hcb hca (by decide) (by decide) m1 (by rw [z0]; omega) (by rw [z0]; omega) (fun i hi y hy => ?_) (Nat.le_of_ble_eq_true rfl) (by decide +kernel) (pc' := 38) rfl ?_
  · have hy2 : hK (hNew S 28 N).1 y 10 := hR1.2.2.2.1 b _ hb1.ln _ y hy
    exact ⟨_, hR1.ob hy2 (by decide)⟩
  · refine am_steps ok_Arrays_copyOf2 1 (x' := (39, [some (.ref b), some (.int n), some (.ref (am_M + 5)), some (.ref a)], [.ref a], _, 1, 0 + N)) rfl (Nat.le_refl _) (by show 0 + N ≤ _; omega) ?_
    have hR2 := RH_cpy (m := (hmin n (hln S.1 b)).toNatClampNeg) hR1 hb1 hak (by decide)
    have hne2 := hs_lt hak (by decide) hR1.2.2.2.2.2
    rw [hal] at hR2
    rw [z0]
    exact am_ret ok_Arrays_copyOf2 rfl (Nat.le_refl _) (by show 0 + N ≤ _; omega) ⟨rfl, (fun _ hz => by cases hz; exact hak), hR2, f1.tr (fun z z1 z2 => List.getElem?_set_ne (by omega)), hNew_E S 28 N⟩
set_option maxHeartbeats 4000000 in
set_option maxRecDepth 100000 in
theorem c_copyOf_28 (b : Nat) (n : Int32) (S : hS) (h0 : am_H) (hR : RH S h0) (hb : hel S.1 b 28) (q : Nat × hS) (hd : h_copyOf 28 400 b n S = some q) : am_Me am_Pr none 2 44 1 400 251 [.ref b, .int n] h0 (hQo (.ref q.1) (some q.1) 28 q.2 S.1 h0) := by
  have hbk : hK S.1 b 28 := by
    unfold h_copyOf at hd
    split at hd
    · cases hd
    rename_i hne
    exact hb.resolve_left (fun z => hne (Or.inl z))
  refine am_enter (d := hd_Arrays_copyOf) rfl (by decide +kernel) (Nat.le_of_ble_eq_true rfl) ?_
  show am_S _ _ _ _ _ _ _ (0, [some (.ref b), some (.int n)], [], h0, 0, 0) _
  refine am_steps ok_Arrays_copyOf 3 (x' := (3, [some (.ref b), some (.int n)], [.ref b, .int n, .ref b], h0, 0, 0)) rfl (Nat.le_of_ble_eq_true rfl) (Nat.le_of_ble_eq_true rfl) ?_
  refine ao_getC (d0 := hd_Arrays_copyOf) rfl (x := 86) (a := 941) (a2 := 1850) (a3 := 942) (a4 := 958) (by decide +kernel) (by decide +kernel) (by decide +kernel) (by decide +kernel) (by decide +kernel) (hR.aq hbk (by decide)) (Nat.le_of_ble_eq_true rfl) (Nat.le_of_ble_eq_true rfl) (pc' := 6) rfl ?_
  refine am_call ok_Arrays_copyOf hk_Arrays_copyOf2 rfl (args' := [.ref b, .int n, .ref (am_M + 5)]) (rest := []) rfl (c_copyOf3_28 b n S h0 hR hb q hd) (Nat.le_of_ble_eq_true rfl) (Nat.le_of_ble_eq_true rfl) (Nat.le_refl _) (Nat.le_of_ble_eq_true rfl) (fun r h' hz => ?_)
  obtain ⟨rfl, z1, z2, z3, z4⟩ := hz
  exact am_ret ok_Arrays_copyOf rfl (Nat.le_refl _) (Nat.le_of_ble_eq_true rfl) ⟨rfl, z1, z2, z3, z4⟩
set_option maxHeartbeats 4000000 in
set_option maxRecDepth 100000 in
theorem c_copyOf3_29 (b : Nat) (n : Int32) (S : hS) (h0 : am_H) (hR : RH S h0) (hb : hel S.1 b 29) (q : Nat × hS) (hd : h_copyOf 29 1200 b n S = some q) : am_Me am_Pr none 1 21 1 1200 252 [.ref b, .int n, .ref (am_M + 5)] h0 (hQo (.ref q.1) (some q.1) 29 q.2 S.1 h0) := by
  unfold h_copyOf at hd
  split at hd
  · cases hd
  rename_i hne
  obtain ⟨N, hN, hd⟩ := Option.bind_eq_some_iff.mp hd
  obtain ⟨a, ha, hd⟩ := Option.bind_eq_some_iff.mp hd
  cases hd
  have hbk : hK S.1 b 29 := hb.resolve_left (fun z => hne (Or.inl z))
  have hlM : hln S.1 b ≤ 1200 := Nat.not_lt.mp fun z => hne (Or.inr z)
  have hNM := hs_nl3 hN
  have hn0 := hs_nl1 hN
  have hn2 := hs_nl2 hN
  obtain ⟨m1, m2, m3⟩ := hmin_ok (n := n) (l := hln S.1 b) (by omega) hn0
  have z0 : (0 : Int32).toNatClampNeg = 0 := by decide
  refine am_enter (d := hd_Arrays_copyOf2) rfl (by decide +kernel) (Nat.le_of_ble_eq_true rfl) ?_
  show am_S _ _ _ _ _ _ _ (0, [some (.ref b), some (.int n), some (.ref (am_M + 5)), none], [], h0, 0, 0) _
  refine am_steps ok_Arrays_copyOf2 1 (x' := (1, [some (.ref b), some (.int n), some (.ref (am_M + 5)), none], [.ref (am_M + 5)], h0, 0, 0)) rfl (Nat.le_of_ble_eq_true rfl) (Nat.le_of_ble_eq_true rfl) ?_
  refine ao_ldcM (d0 := hd_Arrays_copyOf2) rfl (x := 110) (a := 962) (by decide +kernel) (by decide +kernel) (pc' := 3) rfl ?_
  refine ao_acne (d0 := hd_Arrays_copyOf2) rfl (off := 10) (by decide +kernel) (by decide) (pc' := 6) rfl ?_
  refine am_steps ok_Arrays_copyOf2 1 (x' := (7, [some (.ref b), some (.int n), some (.ref (am_M + 5)), none], [.int n], h0, 0, 0)) rfl (Nat.le_of_ble_eq_true rfl) (Nat.le_of_ble_eq_true rfl) ?_
  refine hr8_anew (d0 := hd_Arrays_copyOf2) rfl (x := 2) (a := 964) (kd := 29) (by decide +kernel) (by decide +kernel) hR (by decide) hn0 hn2 (by omega) (hs_al1 ha) (hs_al2 ha) (pc' := 10) rfl (k' := 1) rfl (n' := 0 + N) rfl (Nat.le_refl _) (by omega) (fun h1 hR1 f1 => ?_)
  have hak : hK (hNew S 29 N).1 a 29 := hs_al3 ha (hNew_K S 29 N)
  have hal : hln (hNew S 29 N).1 a = N := by rw [← hs_al2 ha]; exact hNew_ln S 29 N
  have hb1 : hK (hNew S 29 N).1 b 29 := hbk.up (hNew_E S 29 N)
  have hbl : hln (hNew S 29 N).1 b = hln S.1 b := (hNew_E S 29 N).ln hbk
  have hcb : h1[b]? = some (.inl (8, hln S.1 b, .inr (.inr (.inr (.inr ((hNew S 29 N).2.2.2.2.2.2 b)))))) := by rw [← hbl]; exact hR1.aq hb1 (by decide)
  have hca : h1[a]? = some (.inl (8, N, .inr (.inr (.inr (.inr ((hNew S 29 N).2.2.2.2.2.2 a)))))) := by
    have := hR1.aq hak (by decide)
    rw [hal] at this; exact this
  refine am_steps ok_Arrays_copyOf2 7 (x' := (30, [some (.ref b), some (.int n), some (.ref (am_M + 5)), some (.ref a)], [.ref b, .int 0, .ref a, .int 0, .ref b], h1, 1, 0 + N)) rfl (Nat.le_refl _) (by show 0 + N ≤ _; omega) ?_
  refine ao_alenQ (d0 := hd_Arrays_copyOf2) rfl (by decide +kernel) hcb (w := Int32.ofNat (hln S.1 b)) rfl (pc' := 31) rfl ?_
  refine am_steps ok_Arrays_copyOf2 1 (x' := (32, [some (.ref b), some (.int n), some (.ref (am_M + 5)), some (.ref a)], [.int n, .int (Int32.ofNat (hln S.1 b)), .int 0, .ref a, .int 0, .ref b], h1, 1, 0 + N)) rfl (Nat.le_refl _) (by show 0 + N ≤ _; omega) ?_
  refine ar_min ok_Arrays_copyOf2 rfl (w := hmin n (hln S.1 b)) rfl (Nat.le_of_ble_eq_true rfl) (Nat.le_of_ble_eq_true rfl) (Nat.le_refl _) (by omega) (pc' := 35) rfl ?_
  refine ao_copyqO (d0 := hd_Arrays_copyOf2) rfl (x := 150) (w0 := 966) (w1 := 898) (w2 := 897) (w3 := 142) (b := 12) (by decide +kernel) (by decide +kernel) (by decide +kernel) (by decide +kernel) (by decide +kernel) rfl (by decide +kernel) hcb hca (by decide) (by decide) m1 (by rw [z0]; omega) (by rw [z0]; omega) (fun i hi y hy => ?_) (Nat.le_of_ble_eq_true rfl) (by decide +kernel) (pc' := 38) rfl ?_
  · have hy2 : hK (hNew S 29 N).1 y 12 := hR1.2.2.2.1 b _ hb1.ln _ y hy
    exact ⟨_, hR1.ob hy2 (by decide)⟩
  · refine am_steps ok_Arrays_copyOf2 1 (x' := (39, [some (.ref b), some (.int n), some (.ref (am_M + 5)), some (.ref a)], [.ref a], _, 1, 0 + N)) rfl (Nat.le_refl _) (by show 0 + N ≤ _; omega) ?_
    have hR2 := RH_cpy (m := (hmin n (hln S.1 b)).toNatClampNeg) hR1 hb1 hak (by decide)
    have hne2 := hs_lt hak (by decide) hR1.2.2.2.2.2
    rw [hal] at hR2
    rw [z0]
    exact am_ret ok_Arrays_copyOf2 rfl (Nat.le_refl _) (by show 0 + N ≤ _; omega) ⟨rfl, (fun _ hz => by cases hz; exact hak), hR2, f1.tr (fun z z1 z2 => List.getElem?_set_ne (by omega)), hNew_E S 29 N⟩
set_option maxHeartbeats 4000000 in
set_option maxRecDepth 100000 in
theorem c_copyOf_29 (b : Nat) (n : Int32) (S : hS) (h0 : am_H) (hR : RH S h0) (hb : hel S.1 b 29) (q : Nat × hS) (hd : h_copyOf 29 1200 b n S = some q) : am_Me am_Pr none 2 44 1 1200 251 [.ref b, .int n] h0 (hQo (.ref q.1) (some q.1) 29 q.2 S.1 h0) := by
  have hbk : hK S.1 b 29 := by
    unfold h_copyOf at hd
    split at hd
    · cases hd
    rename_i hne
    exact hb.resolve_left (fun z => hne (Or.inl z))
  refine am_enter (d := hd_Arrays_copyOf) rfl (by decide +kernel) (Nat.le_of_ble_eq_true rfl) ?_
  show am_S _ _ _ _ _ _ _ (0, [some (.ref b), some (.int n)], [], h0, 0, 0) _
  refine am_steps ok_Arrays_copyOf 3 (x' := (3, [some (.ref b), some (.int n)], [.ref b, .int n, .ref b], h0, 0, 0)) rfl (Nat.le_of_ble_eq_true rfl) (Nat.le_of_ble_eq_true rfl) ?_
  refine ao_getC (d0 := hd_Arrays_copyOf) rfl (x := 86) (a := 941) (a2 := 1850) (a3 := 942) (a4 := 958) (by decide +kernel) (by decide +kernel) (by decide +kernel) (by decide +kernel) (by decide +kernel) (hR.aq hbk (by decide)) (Nat.le_of_ble_eq_true rfl) (Nat.le_of_ble_eq_true rfl) (pc' := 6) rfl ?_
  refine am_call ok_Arrays_copyOf hk_Arrays_copyOf2 rfl (args' := [.ref b, .int n, .ref (am_M + 5)]) (rest := []) rfl (c_copyOf3_29 b n S h0 hR hb q hd) (Nat.le_of_ble_eq_true rfl) (Nat.le_of_ble_eq_true rfl) (Nat.le_refl _) (Nat.le_of_ble_eq_true rfl) (fun r h' hz => ?_)
  obtain ⟨rfl, z1, z2, z3, z4⟩ := hz
  exact am_ret ok_Arrays_copyOf rfl (Nat.le_refl _) (Nat.le_of_ble_eq_true rfl) ⟨rfl, z1, z2, z3, z4⟩
