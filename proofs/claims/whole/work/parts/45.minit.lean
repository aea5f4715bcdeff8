/-! The reference's constructor, piece by piece. -/
set_option maxHeartbeats 4000000 in
set_option maxRecDepth 100000 in
theorem m_code (a : Int32) (b : Int32) (c : Int32) (d : Int32) (h : am_H)   : am_Me am_Pr none 0 0 0 0 13 [.int a, .int b, .int c, .int d] h (fun r h' => r = some (.long ((((((((a).toInt64) * 256) + ((b).toInt64)) * 256) + ((c).toInt64)) * 256) + ((d).toInt64))) ∧ (∀ q, q ∉ ([] : List Nat) → h'[q]? = h[q]?) ∧ h'.length = h.length) := by
  refine am_enter (d := hd_Mo_code) rfl (by decide +kernel) (Nat.le_of_ble_eq_true rfl) ?_
  show am_S _ _ _ _ _ _ _ (0, [some (.int a), some (.int b), some (.int c), some (.int d)], [], h, 0, 0) _
  refine am_steps ok_Mo_code 2 (x' := (2, [some (.int a), some (.int b), some (.int c), some (.int d)], [.long ((a).toInt64)], h, 0, 0)) rfl (Nat.le_of_ble_eq_true rfl) (Nat.le_of_ble_eq_true rfl) ?_
  refine ar_ldc2 ok_Mo_code rfl (w := 256) (by decide +kernel) (pc' := 5) rfl (Nat.le_of_ble_eq_true rfl) (Nat.le_of_ble_eq_true rfl) ?_
  refine am_steps ok_Mo_code 4 (x' := (9, [some (.int a), some (.int b), some (.int c), some (.int d)], [.long ((((a).toInt64) * 256) + ((b).toInt64))], h, 0, 0)) rfl (Nat.le_of_ble_eq_true rfl) (Nat.le_of_ble_eq_true rfl) ?_
  refine ar_ldc2 ok_Mo_code rfl (w := 256) (by decide +kernel) (pc' := 12) rfl (Nat.le_of_ble_eq_true rfl) (Nat.le_of_ble_eq_true rfl) ?_
  refine am_steps ok_Mo_code 4 (x' := (16, [some (.int a), some (.int b), some (.int c), some (.int d)], [.long ((((((a).toInt64) * 256) + ((b).toInt64)) * 256) + ((c).toInt64))], h, 0, 0)) rfl (Nat.le_of_ble_eq_true rfl) (Nat.le_of_ble_eq_true rfl) ?_
  refine ar_ldc2 ok_Mo_code rfl (w := 256) (by decide +kernel) (pc' := 19) rfl (Nat.le_of_ble_eq_true rfl) (Nat.le_of_ble_eq_true rfl) ?_
  refine am_steps ok_Mo_code 4 (x' := (23, [some (.int a), some (.int b), some (.int c), some (.int d)], [.long ((((((((a).toInt64) * 256) + ((b).toInt64)) * 256) + ((c).toInt64)) * 256) + ((d).toInt64))], h, 0, 0)) rfl (Nat.le_of_ble_eq_true rfl) (Nat.le_of_ble_eq_true rfl) ?_
  exact am_ret ok_Mo_code rfl (Nat.le_of_ble_eq_true rfl) (Nat.le_of_ble_eq_true rfl) ⟨rfl, fun _ _ => rfl, rfl⟩
set_option maxHeartbeats 4000000 in
set_option maxRecDepth 100000 in
theorem mi_0 (Q : Option Value → am_H → Prop) (h : am_H) (hl : h.length = 23) (c_22 : h[22]? = some (.inr (1, [.null, .int 0, .null, .int 0, .int 0, .int 0, .null, .int 0, .int 0, .null, .int 0, .null, .null, .null, .null, .int 0, .int 0, .null, .null, .null, .null, .null, .null, .null, .null, .int 0, .null, .null, .null, .null, .int 0, .int 0, .int 0, .null, .null, .null, .null, .null, .null, .null, .null, .null, .null, .null, .null, .long 0, .null, .null, .int 0, .null, .null, .null, .long 0, .int 0, .int 0, .int 0, .int 0, .int 0, .int 0, .int 0, .int 0, .int 0]))) (kk : ∀ h' : am_H, h'[22]? = some (.inr (1, [.ref 23, .int 0, .ref 24, .int 0, .int 0, .int 0, .ref 25, .int 0, .int 0, .ref 26, .int 0, .null, .null, .null, .null, .int 0, .int 0, .null, .null, .null, .null, .null, .null, .null, .null, .int 0, .null, .null, .null, .null, .int 0, .int 0, .int 0, .null, .null, .null, .null, .null, .null, .null, .null, .null, .null, .null, .null, .long 0, .null, .null, .int 0, .null, .null, .null, .long 0, .int 0, .int 0, .int 0, .int 0, .int 0, .int 0, .int 0, .int 0, .int 0])) → h'[23]? = some (.inl (2, 400, .inl (fun _ => 0))) → h'[24]? = some (.inl (2, 400, .inl (fun _ => 0))) → h'[25]? = some (.inl (2, 32768, .inl (fun _ => 0))) → h'[26]? = some (.inl (1, 256, .inr (.inl (fun _ => 0)))) → (∀ q, q ∉ ([23, 22, 24, 25, 26] : List Nat) → h'[q]? = h[q]?) → h'.length = 27 → am_S am_Pr none 1 23 37 690408 12 (39, [some (.ref 22), none], [], h', 4, 33824) Q) : am_S am_Pr none 1 23 37 690408 12 (0, [some (.ref 22), none], [], h, 0, 0) Q := by
  refine am_steps ok_Mo_init 4 (x' := (8, [some (.ref 22), none], [.int 400, .ref 22], h, 0, 0)) rfl (Nat.le_of_ble_eq_true rfl) (Nat.le_of_ble_eq_true rfl) ?_
  refine ar_newa ok_Mo_init rfl rfl (N := 400) (by decide +kernel) (by decide +kernel) (by decide) (ad := 23) hl (by decide) (pc' := 10) rfl (k' := 1) rfl (n' := 400) rfl (Nat.le_of_ble_eq_true rfl) (Nat.le_of_ble_eq_true rfl) (fun h1 e2 e3 e4 => ?_)
  have c5 := (e3 22 (by decide)).trans c_22
  have fr6 : ∀ q, q ∉ ([23] : List Nat) → h1[q]? = h[q]? := fun q hq => e3 q (fun z => hq (by rw [z]; decide))
  refine ar_put ok_Mo_init rfl c5 (Nat.le_of_ble_eq_true rfl) rfl (fs' := [.ref 23, .int 0, .null, .int 0, .int 0, .int 0, .null, .int 0, .int 0, .null, .int 0, .null, .null, .null, .null, .int 0, .int 0, .null, .null, .null, .null, .null, .null, .null, .null, .int 0, .null, .null, .null, .null, .int 0, .int 0, .int 0, .null, .null, .null, .null, .null, .null, .null, .null, .null, .null, .null, .null, .long 0, .null, .null, .int 0, .null, .null, .null, .long 0, .int 0, .int 0, .int 0, .int 0, .int 0, .int 0, .int 0, .int 0, .int 0]) rfl (pc' := 13) rfl (Nat.le_of_ble_eq_true rfl) (Nat.le_of_ble_eq_true rfl) (fun h7 e8 e9 e10 => ?_)
  have c11 := (e9 23 (by decide)).trans e2
  have fr12 : ∀ q, q ∉ ([23, 22] : List Nat) → h7[q]? = h[q]? := fun q hq => (e9 q (fun z => hq (by rw [z]; decide))).trans (fr6 q (am_sub (by decide) hq))
  refine am_steps ok_Mo_init 2 (x' := (17, [some (.ref 22), none], [.int 400, .ref 22], h7, 1, 400)) rfl (Nat.le_of_ble_eq_true rfl) (Nat.le_of_ble_eq_true rfl) ?_
  refine ar_newa ok_Mo_init rfl rfl (N := 400) (by decide +kernel) (by decide +kernel) (by decide) (ad := 24) (e10.trans e4) (by decide) (pc' := 19) rfl (k' := 2) rfl (n' := 800) rfl (Nat.le_of_ble_eq_true rfl) (Nat.le_of_ble_eq_true rfl) (fun h13 e14 e15 e16 => ?_)
  have c17 := (e15 22 (by decide)).trans e8
  have c18 := (e15 23 (by decide)).trans c11
  have fr19 : ∀ q, q ∉ ([23, 22, 24] : List Nat) → h13[q]? = h[q]? := fun q hq => (e15 q (fun z => hq (by rw [z]; decide))).trans (fr12 q (am_sub (by decide) hq))
  refine ar_put ok_Mo_init rfl c17 (Nat.le_of_ble_eq_true rfl) rfl (fs' := [.ref 23, .int 0, .ref 24, .int 0, .int 0, .int 0, .null, .int 0, .int 0, .null, .int 0, .null, .null, .null, .null, .int 0, .int 0, .null, .null, .null, .null, .null, .null, .null, .null, .int 0, .null, .null, .null, .null, .int 0, .int 0, .int 0, .null, .null, .null, .null, .null, .null, .null, .null, .null, .null, .null, .null, .long 0, .null, .null, .int 0, .null, .null, .null, .long 0, .int 0, .int 0, .int 0, .int 0, .int 0, .int 0, .int 0, .int 0, .int 0]) rfl (pc' := 22) rfl (Nat.le_of_ble_eq_true rfl) (Nat.le_of_ble_eq_true rfl) (fun h20 e21 e22 e23 => ?_)
  have c24 := (e22 23 (by decide)).trans c18
  have c25 := (e22 24 (by decide)).trans e14
  have fr26 : ∀ q, q ∉ ([23, 22, 24] : List Nat) → h20[q]? = h[q]? := fun q hq => (e22 q (fun z => hq (by rw [z]; decide))).trans (fr19 q (am_sub (by decide) hq))
  refine am_steps ok_Mo_init 1 (x' := (23, [some (.ref 22), none], [.ref 22], h20, 2, 800)) rfl (Nat.le_of_ble_eq_true rfl) (Nat.le_of_ble_eq_true rfl) ?_
  refine ar_ldc ok_Mo_init rfl (w := 32768) (by decide +kernel) (pc' := 25) rfl (Nat.le_of_ble_eq_true rfl) (Nat.le_of_ble_eq_true rfl) ?_
  refine ar_newa ok_Mo_init rfl rfl (N := 32768) (by decide +kernel) (by decide +kernel) (by decide) (ad := 25) (e23.trans e16) (by decide) (pc' := 27) rfl (k' := 3) rfl (n' := 33568) rfl (Nat.le_of_ble_eq_true rfl) (Nat.le_of_ble_eq_true rfl) (fun h27 e28 e29 e30 => ?_)
  have c31 := (e29 22 (by decide)).trans e21
  have c32 := (e29 23 (by decide)).trans c24
  have c33 := (e29 24 (by decide)).trans c25
  have fr34 : ∀ q, q ∉ ([23, 22, 24, 25] : List Nat) → h27[q]? = h[q]? := fun q hq => (e29 q (fun z => hq (by rw [z]; decide))).trans (fr26 q (am_sub (by decide) hq))
  refine ar_put ok_Mo_init rfl c31 (Nat.le_of_ble_eq_true rfl) rfl (fs' := [.ref 23, .int 0, .ref 24, .int 0, .int 0, .int 0, .ref 25, .int 0, .int 0, .null, .int 0, .null, .null, .null, .null, .int 0, .int 0, .null, .null, .null, .null, .null, .null, .null, .null, .int 0, .null, .null, .null, .null, .int 0, .int 0, .int 0, .null, .null, .null, .null, .null, .null, .null, .null, .null, .null, .null, .null, .long 0, .null, .null, .int 0, .null, .null, .null, .long 0, .int 0, .int 0, .int 0, .int 0, .int 0, .int 0, .int 0, .int 0, .int 0]) rfl (pc' := 30) rfl (Nat.le_of_ble_eq_true rfl) (Nat.le_of_ble_eq_true rfl) (fun h35 e36 e37 e38 => ?_)
  have c39 := (e37 23 (by decide)).trans c32
  have c40 := (e37 24 (by decide)).trans c33
  have c41 := (e37 25 (by decide)).trans e28
  have fr42 : ∀ q, q ∉ ([23, 22, 24, 25] : List Nat) → h35[q]? = h[q]? := fun q hq => (e37 q (fun z => hq (by rw [z]; decide))).trans (fr34 q (am_sub (by decide) hq))
  refine am_steps ok_Mo_init 2 (x' := (34, [some (.ref 22), none], [.int 256, .ref 22], h35, 3, 33568)) rfl (Nat.le_of_ble_eq_true rfl) (by show (33568 : Nat) ≤ 690408; omega) ?_
  refine ar_newa ok_Mo_init rfl rfl (N := 256) (by decide +kernel) (by decide +kernel) (by decide) (ad := 26) (e38.trans e30) (by decide) (pc' := 36) rfl (k' := 4) rfl (n' := 33824) rfl (Nat.le_of_ble_eq_true rfl) (Nat.le_of_ble_eq_true rfl) (fun h43 e44 e45 e46 => ?_)
  have c47 := (e45 22 (by decide)).trans e36
  have c48 := (e45 23 (by decide)).trans c39
  have c49 := (e45 24 (by decide)).trans c40
  have c50 := (e45 25 (by decide)).trans c41
  have fr51 : ∀ q, q ∉ ([23, 22, 24, 25, 26] : List Nat) → h43[q]? = h[q]? := fun q hq => (e45 q (fun z => hq (by rw [z]; decide))).trans (fr42 q (am_sub (by decide) hq))
  refine ar_put ok_Mo_init rfl c47 (Nat.le_of_ble_eq_true rfl) rfl (fs' := [.ref 23, .int 0, .ref 24, .int 0, .int 0, .int 0, .ref 25, .int 0, .int 0, .ref 26, .int 0, .null, .null, .null, .null, .int 0, .int 0, .null, .null, .null, .null, .null, .null, .null, .null, .int 0, .null, .null, .null, .null, .int 0, .int 0, .int 0, .null, .null, .null, .null, .null, .null, .null, .null, .null, .null, .null, .null, .long 0, .null, .null, .int 0, .null, .null, .null, .long 0, .int 0, .int 0, .int 0, .int 0, .int 0, .int 0, .int 0, .int 0, .int 0]) rfl (pc' := 39) rfl (Nat.le_of_ble_eq_true rfl) (Nat.le_of_ble_eq_true rfl) (fun h52 e53 e54 e55 => ?_)
  have c56 := (e54 23 (by decide)).trans c48
  have c57 := (e54 24 (by decide)).trans c49
  have c58 := (e54 25 (by decide)).trans c50
  have c59 := (e54 26 (by decide)).trans e44
  have fr60 : ∀ q, q ∉ ([23, 22, 24, 25, 26] : List Nat) → h52[q]? = h[q]? := fun q hq => (e54 q (fun z => hq (by rw [z]; decide))).trans (fr51 q (am_sub (by decide) hq))
  exact kk h52 e53 c56 c57 c58 c59 (fr60) (e55.trans e46)
set_option maxHeartbeats 4000000 in
set_option maxRecDepth 100000 in
theorem mi_1 (Q : Option Value → am_H → Prop) (h : am_H) (hl : h.length = 27) (c_22 : h[22]? = some (.inr (1, [.ref 23, .int 0, .ref 24, .int 0, .int 0, .int 0, .ref 25, .int 0, .int 0, .ref 26, .int 0, .null, .null, .null, .null, .int 0, .int 0, .null, .null, .null, .null, .null, .null, .null, .null, .int 0, .null, .null, .null, .null, .int 0, .int 0, .int 0, .null, .null, .null, .null, .null, .null, .null, .null, .null, .null, .null, .null, .long 0, .null, .null, .int 0, .null, .null, .null, .long 0, .int 0, .int 0, .int 0, .int 0, .int 0, .int 0, .int 0, .int 0, .int 0]))) (kk : ∀ h' : am_H, h'[22]? = some (.inr (1, [.ref 23, .int 0, .ref 24, .int 0, .int 0, .int 0, .ref 25, .int 0, .int 0, .ref 26, .int 1, .ref 27, .ref 28, .ref 29, .ref 30, .int 0, .int 0, .null, .null, .null, .null, .null, .null, .null, .null, .int 0, .null, .null, .null, .null, .int 0, .int 0, .int 0, .null, .null, .null, .null, .null, .null, .null, .null, .null, .null, .null, .null, .long 0, .null, .null, .int 0, .null, .null, .null, .long 0, .int 0, .int 0, .int 0, .int 0, .int 0, .int 0, .int 0, .int 0, .int 0])) → h'[27]? = some (.inl (1, 64, .inr (.inl (fun _ => 0)))) → h'[28]? = some (.inl (3, 64, .inl (fun _ => 0))) → h'[29]? = some (.inl (1, 64, .inr (.inl (fun _ => 0)))) → h'[30]? = some (.inl (0, 64, .inl (fun _ => 0))) → (∀ q, q ∉ ([22, 27, 28, 29, 30] : List Nat) → h'[q]? = h[q]?) → h'.length = 31 → am_S am_Pr none 1 23 37 690408 12 (76, [some (.ref 22), none], [], h', 8, 34080) Q) : am_S am_Pr none 1 23 37 690408 12 (39, [some (.ref 22), none], [], h, 4, 33824) Q := by
  refine am_steps ok_Mo_init 2 (x' := (41, [some (.ref 22), none], [.int 1, .ref 22], h, 4, 33824)) rfl (Nat.le_of_ble_eq_true rfl) (by show (33824 : Nat) ≤ 690408; omega) ?_
  refine ar_put ok_Mo_init rfl c_22 (Nat.le_of_ble_eq_true rfl) rfl (fs' := [.ref 23, .int 0, .ref 24, .int 0, .int 0, .int 0, .ref 25, .int 0, .int 0, .ref 26, .int 1, .null, .null, .null, .null, .int 0, .int 0, .null, .null, .null, .null, .null, .null, .null, .null, .int 0, .null, .null, .null, .null, .int 0, .int 0, .int 0, .null, .null, .null, .null, .null, .null, .null, .null, .null, .null, .null, .null, .long 0, .null, .null, .int 0, .null, .null, .null, .long 0, .int 0, .int 0, .int 0, .int 0, .int 0, .int 0, .int 0, .int 0, .int 0]) rfl (pc' := 44) rfl (Nat.le_of_ble_eq_true rfl) (Nat.le_of_ble_eq_true rfl) (fun h1 e2 e3 e4 => ?_)
  have fr5 : ∀ q, q ∉ ([22] : List Nat) → h1[q]? = h[q]? := fun q hq => e3 q (fun z => hq (by rw [z]; decide))
  refine am_steps ok_Mo_init 2 (x' := (47, [some (.ref 22), none], [.int 64, .ref 22], h1, 4, 33824)) rfl (Nat.le_of_ble_eq_true rfl) (by show (33824 : Nat) ≤ 690408; omega) ?_
  refine ar_newa ok_Mo_init rfl rfl (N := 64) (by decide +kernel) (by decide +kernel) (by decide) (ad := 27) (e4.trans hl) (by decide) (pc' := 49) rfl (k' := 5) rfl (n' := 33888) rfl (Nat.le_of_ble_eq_true rfl) (Nat.le_of_ble_eq_true rfl) (fun h6 e7 e8 e9 => ?_)
  have c10 := (e8 22 (by decide)).trans e2
  have fr11 : ∀ q, q ∉ ([22, 27] : List Nat) → h6[q]? = h[q]? := fun q hq => (e8 q (fun z => hq (by rw [z]; decide))).trans (fr5 q (am_sub (by decide) hq))
  refine ar_put ok_Mo_init rfl c10 (Nat.le_of_ble_eq_true rfl) rfl (fs' := [.ref 23, .int 0, .ref 24, .int 0, .int 0, .int 0, .ref 25, .int 0, .int 0, .ref 26, .int 1, .ref 27, .null, .null, .null, .int 0, .int 0, .null, .null, .null, .null, .null, .null, .null, .null, .int 0, .null, .null, .null, .null, .int 0, .int 0, .int 0, .null, .null, .null, .null, .null, .null, .null, .null, .null, .null, .null, .null, .long 0, .null, .null, .int 0, .null, .null, .null, .long 0, .int 0, .int 0, .int 0, .int 0, .int 0, .int 0, .int 0, .int 0, .int 0]) rfl (pc' := 52) rfl (Nat.le_of_ble_eq_true rfl) (Nat.le_of_ble_eq_true rfl) (fun h12 e13 e14 e15 => ?_)
  have c16 := (e14 27 (by decide)).trans e7
  have fr17 : ∀ q, q ∉ ([22, 27] : List Nat) → h12[q]? = h[q]? := fun q hq => (e14 q (fun z => hq (by rw [z]; decide))).trans (fr11 q (am_sub (by decide) hq))
  refine am_steps ok_Mo_init 2 (x' := (55, [some (.ref 22), none], [.int 64, .ref 22], h12, 5, 33888)) rfl (Nat.le_of_ble_eq_true rfl) (by show (33888 : Nat) ≤ 690408; omega) ?_
  refine ar_newa ok_Mo_init rfl rfl (N := 64) (by decide +kernel) (by decide +kernel) (by decide) (ad := 28) (e15.trans e9) (by decide) (pc' := 57) rfl (k' := 6) rfl (n' := 33952) rfl (Nat.le_of_ble_eq_true rfl) (Nat.le_of_ble_eq_true rfl) (fun h18 e19 e20 e21 => ?_)
  have c22 := (e20 22 (by decide)).trans e13
  have c23 := (e20 27 (by decide)).trans c16
  have fr24 : ∀ q, q ∉ ([22, 27, 28] : List Nat) → h18[q]? = h[q]? := fun q hq => (e20 q (fun z => hq (by rw [z]; decide))).trans (fr17 q (am_sub (by decide) hq))
  refine ar_put ok_Mo_init rfl c22 (Nat.le_of_ble_eq_true rfl) rfl (fs' := [.ref 23, .int 0, .ref 24, .int 0, .int 0, .int 0, .ref 25, .int 0, .int 0, .ref 26, .int 1, .ref 27, .ref 28, .null, .null, .int 0, .int 0, .null, .null, .null, .null, .null, .null, .null, .null, .int 0, .null, .null, .null, .null, .int 0, .int 0, .int 0, .null, .null, .null, .null, .null, .null, .null, .null, .null, .null, .null, .null, .long 0, .null, .null, .int 0, .null, .null, .null, .long 0, .int 0, .int 0, .int 0, .int 0, .int 0, .int 0, .int 0, .int 0, .int 0]) rfl (pc' := 60) rfl (Nat.le_of_ble_eq_true rfl) (Nat.le_of_ble_eq_true rfl) (fun h25 e26 e27 e28 => ?_)
  have c29 := (e27 27 (by decide)).trans c23
  have c30 := (e27 28 (by decide)).trans e19
  have fr31 : ∀ q, q ∉ ([22, 27, 28] : List Nat) → h25[q]? = h[q]? := fun q hq => (e27 q (fun z => hq (by rw [z]; decide))).trans (fr24 q (am_sub (by decide) hq))
  refine am_steps ok_Mo_init 2 (x' := (63, [some (.ref 22), none], [.int 64, .ref 22], h25, 6, 33952)) rfl (Nat.le_of_ble_eq_true rfl) (by show (33952 : Nat) ≤ 690408; omega) ?_
  refine ar_newa ok_Mo_init rfl rfl (N := 64) (by decide +kernel) (by decide +kernel) (by decide) (ad := 29) (e28.trans e21) (by decide) (pc' := 65) rfl (k' := 7) rfl (n' := 34016) rfl (Nat.le_of_ble_eq_true rfl) (Nat.le_of_ble_eq_true rfl) (fun h32 e33 e34 e35 => ?_)
  have c36 := (e34 22 (by decide)).trans e26
  have c37 := (e34 27 (by decide)).trans c29
  have c38 := (e34 28 (by decide)).trans c30
  have fr39 : ∀ q, q ∉ ([22, 27, 28, 29] : List Nat) → h32[q]? = h[q]? := fun q hq => (e34 q (fun z => hq (by rw [z]; decide))).trans (fr31 q (am_sub (by decide) hq))
  refine ar_put ok_Mo_init rfl c36 (Nat.le_of_ble_eq_true rfl) rfl (fs' := [.ref 23, .int 0, .ref 24, .int 0, .int 0, .int 0, .ref 25, .int 0, .int 0, .ref 26, .int 1, .ref 27, .ref 28, .ref 29, .null, .int 0, .int 0, .null, .null, .null, .null, .null, .null, .null, .null, .int 0, .null, .null, .null, .null, .int 0, .int 0, .int 0, .null, .null, .null, .null, .null, .null, .null, .null, .null, .null, .null, .null, .long 0, .null, .null, .int 0, .null, .null, .null, .long 0, .int 0, .int 0, .int 0, .int 0, .int 0, .int 0, .int 0, .int 0, .int 0]) rfl (pc' := 68) rfl (Nat.le_of_ble_eq_true rfl) (Nat.le_of_ble_eq_true rfl) (fun h40 e41 e42 e43 => ?_)
  have c44 := (e42 27 (by decide)).trans c37
  have c45 := (e42 28 (by decide)).trans c38
  have c46 := (e42 29 (by decide)).trans e33
  have fr47 : ∀ q, q ∉ ([22, 27, 28, 29] : List Nat) → h40[q]? = h[q]? := fun q hq => (e42 q (fun z => hq (by rw [z]; decide))).trans (fr39 q (am_sub (by decide) hq))
  refine am_steps ok_Mo_init 2 (x' := (71, [some (.ref 22), none], [.int 64, .ref 22], h40, 7, 34016)) rfl (Nat.le_of_ble_eq_true rfl) (by show (34016 : Nat) ≤ 690408; omega) ?_
  refine ar_newa ok_Mo_init rfl rfl (N := 64) (by decide +kernel) (by decide +kernel) (by decide) (ad := 30) (e43.trans e35) (by decide) (pc' := 73) rfl (k' := 8) rfl (n' := 34080) rfl (Nat.le_of_ble_eq_true rfl) (Nat.le_of_ble_eq_true rfl) (fun h48 e49 e50 e51 => ?_)
  have c52 := (e50 22 (by decide)).trans e41
  have c53 := (e50 27 (by decide)).trans c44
  have c54 := (e50 28 (by decide)).trans c45
  have c55 := (e50 29 (by decide)).trans c46
  have fr56 : ∀ q, q ∉ ([22, 27, 28, 29, 30] : List Nat) → h48[q]? = h[q]? := fun q hq => (e50 q (fun z => hq (by rw [z]; decide))).trans (fr47 q (am_sub (by decide) hq))
  refine ar_put ok_Mo_init rfl c52 (Nat.le_of_ble_eq_true rfl) rfl (fs' := [.ref 23, .int 0, .ref 24, .int 0, .int 0, .int 0, .ref 25, .int 0, .int 0, .ref 26, .int 1, .ref 27, .ref 28, .ref 29, .ref 30, .int 0, .int 0, .null, .null, .null, .null, .null, .null, .null, .null, .int 0, .null, .null, .null, .null, .int 0, .int 0, .int 0, .null, .null, .null, .null, .null, .null, .null, .null, .null, .null, .null, .null, .long 0, .null, .null, .int 0, .null, .null, .null, .long 0, .int 0, .int 0, .int 0, .int 0, .int 0, .int 0, .int 0, .int 0, .int 0]) rfl (pc' := 76) rfl (Nat.le_of_ble_eq_true rfl) (Nat.le_of_ble_eq_true rfl) (fun h57 e58 e59 e60 => ?_)
  have c61 := (e59 27 (by decide)).trans c53
  have c62 := (e59 28 (by decide)).trans c54
  have c63 := (e59 29 (by decide)).trans c55
  have c64 := (e59 30 (by decide)).trans e49
  have fr65 : ∀ q, q ∉ ([22, 27, 28, 29, 30] : List Nat) → h57[q]? = h[q]? := fun q hq => (e59 q (fun z => hq (by rw [z]; decide))).trans (fr56 q (am_sub (by decide) hq))
  exact kk h57 e58 c61 c62 c63 c64 (fr65) (e60.trans e51)
set_option maxHeartbeats 4000000 in
set_option maxRecDepth 100000 in
theorem mi_2 (Q : Option Value → am_H → Prop) (h : am_H) (hl : h.length = 31) (c_22 : h[22]? = some (.inr (1, [.ref 23, .int 0, .ref 24, .int 0, .int 0, .int 0, .ref 25, .int 0, .int 0, .ref 26, .int 1, .ref 27, .ref 28, .ref 29, .ref 30, .int 0, .int 0, .null, .null, .null, .null, .null, .null, .null, .null, .int 0, .null, .null, .null, .null, .int 0, .int 0, .int 0, .null, .null, .null, .null, .null, .null, .null, .null, .null, .null, .null, .null, .long 0, .null, .null, .int 0, .null, .null, .null, .long 0, .int 0, .int 0, .int 0, .int 0, .int 0, .int 0, .int 0, .int 0, .int 0]))) (kk : ∀ h' : am_H, h'[22]? = some (.inr (1, [.ref 23, .int 0, .ref 24, .int 0, .int 0, .int 0, .ref 25, .int 0, .int 0, .ref 26, .int 1, .ref 27, .ref 28, .ref 29, .ref 30, .int 0, .int (-1), .ref 31, .ref 32, .ref 33, .ref 34, .null, .null, .null, .null, .int 0, .null, .null, .null, .null, .int 0, .int 0, .int 0, .null, .null, .null, .null, .null, .null, .null, .null, .null, .null, .null, .null, .long 0, .null, .null, .int 0, .null, .null, .null, .long 0, .int 0, .int 0, .int 0, .int 0, .int 0, .int 0, .int 0, .int 0, .int 0])) → h'[31]? = some (.inl (1, 16384, .inr (.inl (fun _ => 0)))) → h'[32]? = some (.inl (1, 16384, .inr (.inl (fun _ => 0)))) → h'[33]? = some (.inl (1, 16384, .inr (.inl (fun _ => 0)))) → h'[34]? = some (.inl (1, 16384, .inr (.inl (fun _ => 0)))) → (∀ q, q ∉ ([22, 31, 32, 33, 34] : List Nat) → h'[q]? = h[q]?) → h'.length = 35 → am_S am_Pr none 1 23 37 690408 12 (117, [some (.ref 22), none], [], h', 12, 99616) Q) : am_S am_Pr none 1 23 37 690408 12 (76, [some (.ref 22), none], [], h, 8, 34080) Q := by
  refine am_steps ok_Mo_init 2 (x' := (78, [some (.ref 22), none], [.int (-1), .ref 22], h, 8, 34080)) rfl (Nat.le_of_ble_eq_true rfl) (by show (34080 : Nat) ≤ 690408; omega) ?_
  refine ar_put ok_Mo_init rfl c_22 (Nat.le_of_ble_eq_true rfl) rfl (fs' := [.ref 23, .int 0, .ref 24, .int 0, .int 0, .int 0, .ref 25, .int 0, .int 0, .ref 26, .int 1, .ref 27, .ref 28, .ref 29, .ref 30, .int 0, .int (-1), .null, .null, .null, .null, .null, .null, .null, .null, .int 0, .null, .null, .null, .null, .int 0, .int 0, .int 0, .null, .null, .null, .null, .null, .null, .null, .null, .null, .null, .null, .null, .long 0, .null, .null, .int 0, .null, .null, .null, .long 0, .int 0, .int 0, .int 0, .int 0, .int 0, .int 0, .int 0, .int 0, .int 0]) rfl (pc' := 81) rfl (Nat.le_of_ble_eq_true rfl) (Nat.le_of_ble_eq_true rfl) (fun h1 e2 e3 e4 => ?_)
  have fr5 : ∀ q, q ∉ ([22] : List Nat) → h1[q]? = h[q]? := fun q hq => e3 q (fun z => hq (by rw [z]; decide))
  refine am_steps ok_Mo_init 2 (x' := (85, [some (.ref 22), none], [.int 16384, .ref 22], h1, 8, 34080)) rfl (Nat.le_of_ble_eq_true rfl) (by show (34080 : Nat) ≤ 690408; omega) ?_
  refine ar_newa ok_Mo_init rfl rfl (N := 16384) (by decide +kernel) (by decide +kernel) (by decide) (ad := 31) (e4.trans hl) (by decide) (pc' := 87) rfl (k' := 9) rfl (n' := 50464) rfl (Nat.le_of_ble_eq_true rfl) (Nat.le_of_ble_eq_true rfl) (fun h6 e7 e8 e9 => ?_)
  have c10 := (e8 22 (by decide)).trans e2
  have fr11 : ∀ q, q ∉ ([22, 31] : List Nat) → h6[q]? = h[q]? := fun q hq => (e8 q (fun z => hq (by rw [z]; decide))).trans (fr5 q (am_sub (by decide) hq))
  refine ar_put ok_Mo_init rfl c10 (Nat.le_of_ble_eq_true rfl) rfl (fs' := [.ref 23, .int 0, .ref 24, .int 0, .int 0, .int 0, .ref 25, .int 0, .int 0, .ref 26, .int 1, .ref 27, .ref 28, .ref 29, .ref 30, .int 0, .int (-1), .ref 31, .null, .null, .null, .null, .null, .null, .null, .int 0, .null, .null, .null, .null, .int 0, .int 0, .int 0, .null, .null, .null, .null, .null, .null, .null, .null, .null, .null, .null, .null, .long 0, .null, .null, .int 0, .null, .null, .null, .long 0, .int 0, .int 0, .int 0, .int 0, .int 0, .int 0, .int 0, .int 0, .int 0]) rfl (pc' := 90) rfl (Nat.le_of_ble_eq_true rfl) (Nat.le_of_ble_eq_true rfl) (fun h12 e13 e14 e15 => ?_)
  have c16 := (e14 31 (by decide)).trans e7
  have fr17 : ∀ q, q ∉ ([22, 31] : List Nat) → h12[q]? = h[q]? := fun q hq => (e14 q (fun z => hq (by rw [z]; decide))).trans (fr11 q (am_sub (by decide) hq))
  refine am_steps ok_Mo_init 2 (x' := (94, [some (.ref 22), none], [.int 16384, .ref 22], h12, 9, 50464)) rfl (Nat.le_of_ble_eq_true rfl) (by show (50464 : Nat) ≤ 690408; omega) ?_
  refine ar_newa ok_Mo_init rfl rfl (N := 16384) (by decide +kernel) (by decide +kernel) (by decide) (ad := 32) (e15.trans e9) (by decide) (pc' := 96) rfl (k' := 10) rfl (n' := 66848) rfl (Nat.le_of_ble_eq_true rfl) (Nat.le_of_ble_eq_true rfl) (fun h18 e19 e20 e21 => ?_)
  have c22 := (e20 22 (by decide)).trans e13
  have c23 := (e20 31 (by decide)).trans c16
  have fr24 : ∀ q, q ∉ ([22, 31, 32] : List Nat) → h18[q]? = h[q]? := fun q hq => (e20 q (fun z => hq (by rw [z]; decide))).trans (fr17 q (am_sub (by decide) hq))
  refine ar_put ok_Mo_init rfl c22 (Nat.le_of_ble_eq_true rfl) rfl (fs' := [.ref 23, .int 0, .ref 24, .int 0, .int 0, .int 0, .ref 25, .int 0, .int 0, .ref 26, .int 1, .ref 27, .ref 28, .ref 29, .ref 30, .int 0, .int (-1), .ref 31, .ref 32, .null, .null, .null, .null, .null, .null, .int 0, .null, .null, .null, .null, .int 0, .int 0, .int 0, .null, .null, .null, .null, .null, .null, .null, .null, .null, .null, .null, .null, .long 0, .null, .null, .int 0, .null, .null, .null, .long 0, .int 0, .int 0, .int 0, .int 0, .int 0, .int 0, .int 0, .int 0, .int 0]) rfl (pc' := 99) rfl (Nat.le_of_ble_eq_true rfl) (Nat.le_of_ble_eq_true rfl) (fun h25 e26 e27 e28 => ?_)
  have c29 := (e27 31 (by decide)).trans c23
  have c30 := (e27 32 (by decide)).trans e19
  have fr31 : ∀ q, q ∉ ([22, 31, 32] : List Nat) → h25[q]? = h[q]? := fun q hq => (e27 q (fun z => hq (by rw [z]; decide))).trans (fr24 q (am_sub (by decide) hq))
  refine am_steps ok_Mo_init 2 (x' := (103, [some (.ref 22), none], [.int 16384, .ref 22], h25, 10, 66848)) rfl (Nat.le_of_ble_eq_true rfl) (by show (66848 : Nat) ≤ 690408; omega) ?_
  refine ar_newa ok_Mo_init rfl rfl (N := 16384) (by decide +kernel) (by decide +kernel) (by decide) (ad := 33) (e28.trans e21) (by decide) (pc' := 105) rfl (k' := 11) rfl (n' := 83232) rfl (Nat.le_of_ble_eq_true rfl) (Nat.le_of_ble_eq_true rfl) (fun h32 e33 e34 e35 => ?_)
  have c36 := (e34 22 (by decide)).trans e26
  have c37 := (e34 31 (by decide)).trans c29
  have c38 := (e34 32 (by decide)).trans c30
  have fr39 : ∀ q, q ∉ ([22, 31, 32, 33] : List Nat) → h32[q]? = h[q]? := fun q hq => (e34 q (fun z => hq (by rw [z]; decide))).trans (fr31 q (am_sub (by decide) hq))
  refine ar_put ok_Mo_init rfl c36 (Nat.le_of_ble_eq_true rfl) rfl (fs' := [.ref 23, .int 0, .ref 24, .int 0, .int 0, .int 0, .ref 25, .int 0, .int 0, .ref 26, .int 1, .ref 27, .ref 28, .ref 29, .ref 30, .int 0, .int (-1), .ref 31, .ref 32, .ref 33, .null, .null, .null, .null, .null, .int 0, .null, .null, .null, .null, .int 0, .int 0, .int 0, .null, .null, .null, .null, .null, .null, .null, .null, .null, .null, .null, .null, .long 0, .null, .null, .int 0, .null, .null, .null, .long 0, .int 0, .int 0, .int 0, .int 0, .int 0, .int 0, .int 0, .int 0, .int 0]) rfl (pc' := 108) rfl (Nat.le_of_ble_eq_true rfl) (Nat.le_of_ble_eq_true rfl) (fun h40 e41 e42 e43 => ?_)
  have c44 := (e42 31 (by decide)).trans c37
  have c45 := (e42 32 (by decide)).trans c38
  have c46 := (e42 33 (by decide)).trans e33
  have fr47 : ∀ q, q ∉ ([22, 31, 32, 33] : List Nat) → h40[q]? = h[q]? := fun q hq => (e42 q (fun z => hq (by rw [z]; decide))).trans (fr39 q (am_sub (by decide) hq))
  refine am_steps ok_Mo_init 2 (x' := (112, [some (.ref 22), none], [.int 16384, .ref 22], h40, 11, 83232)) rfl (Nat.le_of_ble_eq_true rfl) (by show (83232 : Nat) ≤ 690408; omega) ?_
  refine ar_newa ok_Mo_init rfl rfl (N := 16384) (by decide +kernel) (by decide +kernel) (by decide) (ad := 34) (e43.trans e35) (by decide) (pc' := 114) rfl (k' := 12) rfl (n' := 99616) rfl (Nat.le_of_ble_eq_true rfl) (Nat.le_of_ble_eq_true rfl) (fun h48 e49 e50 e51 => ?_)
  have c52 := (e50 22 (by decide)).trans e41
  have c53 := (e50 31 (by decide)).trans c44
  have c54 := (e50 32 (by decide)).trans c45
  have c55 := (e50 33 (by decide)).trans c46
  have fr56 : ∀ q, q ∉ ([22, 31, 32, 33, 34] : List Nat) → h48[q]? = h[q]? := fun q hq => (e50 q (fun z => hq (by rw [z]; decide))).trans (fr47 q (am_sub (by decide) hq))
  refine ar_put ok_Mo_init rfl c52 (Nat.le_of_ble_eq_true rfl) rfl (fs' := [.ref 23, .int 0, .ref 24, .int 0, .int 0, .int 0, .ref 25, .int 0, .int 0, .ref 26, .int 1, .ref 27, .ref 28, .ref 29, .ref 30, .int 0, .int (-1), .ref 31, .ref 32, .ref 33, .ref 34, .null, .null, .null, .null, .int 0, .null, .null, .null, .null, .int 0, .int 0, .int 0, .null, .null, .null, .null, .null, .null, .null, .null, .null, .null, .null, .null, .long 0, .null, .null, .int 0, .null, .null, .null, .long 0, .int 0, .int 0, .int 0, .int 0, .int 0, .int 0, .int 0, .int 0, .int 0]) rfl (pc' := 117) rfl (Nat.le_of_ble_eq_true rfl) (Nat.le_of_ble_eq_true rfl) (fun h57 e58 e59 e60 => ?_)
  have c61 := (e59 31 (by decide)).trans c53
  have c62 := (e59 32 (by decide)).trans c54
  have c63 := (e59 33 (by decide)).trans c55
  have c64 := (e59 34 (by decide)).trans e49
  have fr65 : ∀ q, q ∉ ([22, 31, 32, 33, 34] : List Nat) → h57[q]? = h[q]? := fun q hq => (e59 q (fun z => hq (by rw [z]; decide))).trans (fr56 q (am_sub (by decide) hq))
  exact kk h57 e58 c61 c62 c63 c64 (fr65) (e60.trans e51)
set_option maxHeartbeats 4000000 in
set_option maxRecDepth 100000 in
theorem mi_3 (Q : Option Value → am_H → Prop) (h : am_H) (hl : h.length = 35) (c_22 : h[22]? = some (.inr (1, [.ref 23, .int 0, .ref 24, .int 0, .int 0, .int 0, .ref 25, .int 0, .int 0, .ref 26, .int 1, .ref 27, .ref 28, .ref 29, .ref 30, .int 0, .int (-1), .ref 31, .ref 32, .ref 33, .ref 34, .null, .null, .null, .null, .int 0, .null, .null, .null, .null, .int 0, .int 0, .int 0, .null, .null, .null, .null, .null, .null, .null, .null, .null, .null, .null, .null, .long 0, .null, .null, .int 0, .null, .null, .null, .long 0, .int 0, .int 0, .int 0, .int 0, .int 0, .int 0, .int 0, .int 0, .int 0]))) (kk : ∀ h' : am_H, h'[22]? = some (.inr (1, [.ref 23, .int 0, .ref 24, .int 0, .int 0, .int 0, .ref 25, .int 0, .int 0, .ref 26, .int 1, .ref 27, .ref 28, .ref 29, .ref 30, .int 0, .int (-1), .ref 31, .ref 32, .ref 33, .ref 34, .ref 35, .ref 36, .ref 37, .ref 38, .int 0, .null, .null, .null, .null, .int 0, .int 0, .int 0, .null, .null, .null, .null, .null, .null, .null, .null, .null, .null, .null, .null, .long 0, .null, .null, .int 0, .null, .null, .null, .long 0, .int 0, .int 0, .int 0, .int 0, .int 0, .int 0, .int 0, .int 0, .int 0])) → h'[35]? = some (.inl (1, 16384, .inr (.inl (fun _ => 0)))) → h'[36]? = some (.inl (0, 16384, .inl (fun _ => 0))) → h'[37]? = some (.inl (1, 65536, .inr (.inl (fun _ => 0)))) → h'[38]? = some (.inl (1, 65536, .inr (.inl (fun _ => 0)))) → (∀ q, q ∉ ([35, 22, 36, 37, 38] : List Nat) → h'[q]? = h[q]?) → h'.length = 39 → am_S am_Pr none 1 23 37 690408 12 (151, [some (.ref 22), none], [], h', 16, 263456) Q) : am_S am_Pr none 1 23 37 690408 12 (117, [some (.ref 22), none], [], h, 12, 99616) Q := by
  refine am_steps ok_Mo_init 2 (x' := (121, [some (.ref 22), none], [.int 16384, .ref 22], h, 12, 99616)) rfl (Nat.le_of_ble_eq_true rfl) (by show (99616 : Nat) ≤ 690408; omega) ?_
  refine ar_newa ok_Mo_init rfl rfl (N := 16384) (by decide +kernel) (by decide +kernel) (by decide) (ad := 35) hl (by decide) (pc' := 123) rfl (k' := 13) rfl (n' := 116000) rfl (Nat.le_of_ble_eq_true rfl) (Nat.le_of_ble_eq_true rfl) (fun h1 e2 e3 e4 => ?_)
  have c5 := (e3 22 (by decide)).trans c_22
  have fr6 : ∀ q, q ∉ ([35] : List Nat) → h1[q]? = h[q]? := fun q hq => e3 q (fun z => hq (by rw [z]; decide))
  refine ar_put ok_Mo_init rfl c5 (Nat.le_of_ble_eq_true rfl) rfl (fs' := [.ref 23, .int 0, .ref 24, .int 0, .int 0, .int 0, .ref 25, .int 0, .int 0, .ref 26, .int 1, .ref 27, .ref 28, .ref 29, .ref 30, .int 0, .int (-1), .ref 31, .ref 32, .ref 33, .ref 34, .ref 35, .null, .null, .null, .int 0, .null, .null, .null, .null, .int 0, .int 0, .int 0, .null, .null, .null, .null, .null, .null, .null, .null, .null, .null, .null, .null, .long 0, .null, .null, .int 0, .null, .null, .null, .long 0, .int 0, .int 0, .int 0, .int 0, .int 0, .int 0, .int 0, .int 0, .int 0]) rfl (pc' := 126) rfl (Nat.le_of_ble_eq_true rfl) (Nat.le_of_ble_eq_true rfl) (fun h7 e8 e9 e10 => ?_)
  have c11 := (e9 35 (by decide)).trans e2
  have fr12 : ∀ q, q ∉ ([35, 22] : List Nat) → h7[q]? = h[q]? := fun q hq => (e9 q (fun z => hq (by rw [z]; decide))).trans (fr6 q (am_sub (by decide) hq))
  refine am_steps ok_Mo_init 2 (x' := (130, [some (.ref 22), none], [.int 16384, .ref 22], h7, 13, 116000)) rfl (Nat.le_of_ble_eq_true rfl) (by show (116000 : Nat) ≤ 690408; omega) ?_
  refine ar_newa ok_Mo_init rfl rfl (N := 16384) (by decide +kernel) (by decide +kernel) (by decide) (ad := 36) (e10.trans e4) (by decide) (pc' := 132) rfl (k' := 14) rfl (n' := 132384) rfl (Nat.le_of_ble_eq_true rfl) (Nat.le_of_ble_eq_true rfl) (fun h13 e14 e15 e16 => ?_)
  have c17 := (e15 22 (by decide)).trans e8
  have c18 := (e15 35 (by decide)).trans c11
  have fr19 : ∀ q, q ∉ ([35, 22, 36] : List Nat) → h13[q]? = h[q]? := fun q hq => (e15 q (fun z => hq (by rw [z]; decide))).trans (fr12 q (am_sub (by decide) hq))
  refine ar_put ok_Mo_init rfl c17 (Nat.le_of_ble_eq_true rfl) rfl (fs' := [.ref 23, .int 0, .ref 24, .int 0, .int 0, .int 0, .ref 25, .int 0, .int 0, .ref 26, .int 1, .ref 27, .ref 28, .ref 29, .ref 30, .int 0, .int (-1), .ref 31, .ref 32, .ref 33, .ref 34, .ref 35, .ref 36, .null, .null, .int 0, .null, .null, .null, .null, .int 0, .int 0, .int 0, .null, .null, .null, .null, .null, .null, .null, .null, .null, .null, .null, .null, .long 0, .null, .null, .int 0, .null, .null, .null, .long 0, .int 0, .int 0, .int 0, .int 0, .int 0, .int 0, .int 0, .int 0, .int 0]) rfl (pc' := 135) rfl (Nat.le_of_ble_eq_true rfl) (Nat.le_of_ble_eq_true rfl) (fun h20 e21 e22 e23 => ?_)
  have c24 := (e22 35 (by decide)).trans c18
  have c25 := (e22 36 (by decide)).trans e14
  have fr26 : ∀ q, q ∉ ([35, 22, 36] : List Nat) → h20[q]? = h[q]? := fun q hq => (e22 q (fun z => hq (by rw [z]; decide))).trans (fr19 q (am_sub (by decide) hq))
  refine am_steps ok_Mo_init 1 (x' := (136, [some (.ref 22), none], [.ref 22], h20, 14, 132384)) rfl (Nat.le_of_ble_eq_true rfl) (by show (132384 : Nat) ≤ 690408; omega) ?_
  refine ar_ldc ok_Mo_init rfl (w := 65536) (by decide +kernel) (pc' := 138) rfl (Nat.le_of_ble_eq_true rfl) (Nat.le_of_ble_eq_true rfl) ?_
  refine ar_newa ok_Mo_init rfl rfl (N := 65536) (by decide +kernel) (by decide +kernel) (by decide) (ad := 37) (e23.trans e16) (by decide) (pc' := 140) rfl (k' := 15) rfl (n' := 197920) rfl (Nat.le_of_ble_eq_true rfl) (Nat.le_of_ble_eq_true rfl) (fun h27 e28 e29 e30 => ?_)
  have c31 := (e29 22 (by decide)).trans e21
  have c32 := (e29 35 (by decide)).trans c24
  have c33 := (e29 36 (by decide)).trans c25
  have fr34 : ∀ q, q ∉ ([35, 22, 36, 37] : List Nat) → h27[q]? = h[q]? := fun q hq => (e29 q (fun z => hq (by rw [z]; decide))).trans (fr26 q (am_sub (by decide) hq))
  refine ar_put ok_Mo_init rfl c31 (Nat.le_of_ble_eq_true rfl) rfl (fs' := [.ref 23, .int 0, .ref 24, .int 0, .int 0, .int 0, .ref 25, .int 0, .int 0, .ref 26, .int 1, .ref 27, .ref 28, .ref 29, .ref 30, .int 0, .int (-1), .ref 31, .ref 32, .ref 33, .ref 34, .ref 35, .ref 36, .ref 37, .null, .int 0, .null, .null, .null, .null, .int 0, .int 0, .int 0, .null, .null, .null, .null, .null, .null, .null, .null, .null, .null, .null, .null, .long 0, .null, .null, .int 0, .null, .null, .null, .long 0, .int 0, .int 0, .int 0, .int 0, .int 0, .int 0, .int 0, .int 0, .int 0]) rfl (pc' := 143) rfl (Nat.le_of_ble_eq_true rfl) (Nat.le_of_ble_eq_true rfl) (fun h35 e36 e37 e38 => ?_)
  have c39 := (e37 35 (by decide)).trans c32
  have c40 := (e37 36 (by decide)).trans c33
  have c41 := (e37 37 (by decide)).trans e28
  have fr42 : ∀ q, q ∉ ([35, 22, 36, 37] : List Nat) → h35[q]? = h[q]? := fun q hq => (e37 q (fun z => hq (by rw [z]; decide))).trans (fr34 q (am_sub (by decide) hq))
  refine am_steps ok_Mo_init 1 (x' := (144, [some (.ref 22), none], [.ref 22], h35, 15, 197920)) rfl (Nat.le_of_ble_eq_true rfl) (by show (197920 : Nat) ≤ 690408; omega) ?_
  refine ar_ldc ok_Mo_init rfl (w := 65536) (by decide +kernel) (pc' := 146) rfl (Nat.le_of_ble_eq_true rfl) (Nat.le_of_ble_eq_true rfl) ?_
  refine ar_newa ok_Mo_init rfl rfl (N := 65536) (by decide +kernel) (by decide +kernel) (by decide) (ad := 38) (e38.trans e30) (by decide) (pc' := 148) rfl (k' := 16) rfl (n' := 263456) rfl (Nat.le_of_ble_eq_true rfl) (Nat.le_of_ble_eq_true rfl) (fun h43 e44 e45 e46 => ?_)
  have c47 := (e45 22 (by decide)).trans e36
  have c48 := (e45 35 (by decide)).trans c39
  have c49 := (e45 36 (by decide)).trans c40
  have c50 := (e45 37 (by decide)).trans c41
  have fr51 : ∀ q, q ∉ ([35, 22, 36, 37, 38] : List Nat) → h43[q]? = h[q]? := fun q hq => (e45 q (fun z => hq (by rw [z]; decide))).trans (fr42 q (am_sub (by decide) hq))
  refine ar_put ok_Mo_init rfl c47 (Nat.le_of_ble_eq_true rfl) rfl (fs' := [.ref 23, .int 0, .ref 24, .int 0, .int 0, .int 0, .ref 25, .int 0, .int 0, .ref 26, .int 1, .ref 27, .ref 28, .ref 29, .ref 30, .int 0, .int (-1), .ref 31, .ref 32, .ref 33, .ref 34, .ref 35, .ref 36, .ref 37, .ref 38, .int 0, .null, .null, .null, .null, .int 0, .int 0, .int 0, .null, .null, .null, .null, .null, .null, .null, .null, .null, .null, .null, .null, .long 0, .null, .null, .int 0, .null, .null, .null, .long 0, .int 0, .int 0, .int 0, .int 0, .int 0, .int 0, .int 0, .int 0, .int 0]) rfl (pc' := 151) rfl (Nat.le_of_ble_eq_true rfl) (Nat.le_of_ble_eq_true rfl) (fun h52 e53 e54 e55 => ?_)
  have c56 := (e54 35 (by decide)).trans c48
  have c57 := (e54 36 (by decide)).trans c49
  have c58 := (e54 37 (by decide)).trans c50
  have c59 := (e54 38 (by decide)).trans e44
  have fr60 : ∀ q, q ∉ ([35, 22, 36, 37, 38] : List Nat) → h52[q]? = h[q]? := fun q hq => (e54 q (fun z => hq (by rw [z]; decide))).trans (fr51 q (am_sub (by decide) hq))
  exact kk h52 e53 c56 c57 c58 c59 (fr60) (e55.trans e46)
set_option maxHeartbeats 4000000 in
set_option maxRecDepth 100000 in
theorem mi_4 (Q : Option Value → am_H → Prop) (h : am_H) (hl : h.length = 39) (c_22 : h[22]? = some (.inr (1, [.ref 23, .int 0, .ref 24, .int 0, .int 0, .int 0, .ref 25, .int 0, .int 0, .ref 26, .int 1, .ref 27, .ref 28, .ref 29, .ref 30, .int 0, .int (-1), .ref 31, .ref 32, .ref 33, .ref 34, .ref 35, .ref 36, .ref 37, .ref 38, .int 0, .null, .null, .null, .null, .int 0, .int 0, .int 0, .null, .null, .null, .null, .null, .null, .null, .null, .null, .null, .null, .null, .long 0, .null, .null, .int 0, .null, .null, .null, .long 0, .int 0, .int 0, .int 0, .int 0, .int 0, .int 0, .int 0, .int 0, .int 0]))) (kk : ∀ h' : am_H, h'[22]? = some (.inr (1, [.ref 23, .int 0, .ref 24, .int 0, .int 0, .int 0, .ref 25, .int 0, .int 0, .ref 26, .int 1, .ref 27, .ref 28, .ref 29, .ref 30, .int 0, .int (-1), .ref 31, .ref 32, .ref 33, .ref 34, .ref 35, .ref 36, .ref 37, .ref 38, .int 0, .ref 39, .ref 40, .ref 41, .ref 42, .int 0, .int 0, .int 0, .null, .null, .null, .null, .null, .null, .null, .null, .null, .null, .null, .null, .long 0, .null, .null, .int 0, .null, .null, .null, .long 0, .int 0, .int 0, .int 0, .int 0, .int 0, .int 0, .int 0, .int 0, .int 0])) → h'[39]? = some (.inl (2, 246000, .inl (fun _ => 0))) → h'[40]? = some (.inl (0, 2000, .inl (fun _ => 0))) → h'[41]? = some (.inl (0, 2000, .inl (fun _ => 0))) → h'[42]? = some (.inl (1, 2000, .inr (.inl (fun _ => 0)))) → (∀ q, q ∉ ([39, 22, 40, 41, 42] : List Nat) → h'[q]? = h[q]?) → h'.length = 43 → am_S am_Pr none 1 23 37 690408 12 (186, [some (.ref 22), none], [], h', 20, 515456) Q) : am_S am_Pr none 1 23 37 690408 12 (151, [some (.ref 22), none], [], h, 16, 263456) Q := by
  refine am_steps ok_Mo_init 1 (x' := (152, [some (.ref 22), none], [.ref 22], h, 16, 263456)) rfl (Nat.le_of_ble_eq_true rfl) (by show (263456 : Nat) ≤ 690408; omega) ?_
  refine ar_ldc ok_Mo_init rfl (w := 246000) (by decide +kernel) (pc' := 154) rfl (Nat.le_of_ble_eq_true rfl) (Nat.le_of_ble_eq_true rfl) ?_
  refine ar_newa ok_Mo_init rfl rfl (N := 246000) (by decide +kernel) (by decide +kernel) (by decide) (ad := 39) hl (by decide) (pc' := 156) rfl (k' := 17) rfl (n' := 509456) rfl (Nat.le_of_ble_eq_true rfl) (Nat.le_of_ble_eq_true rfl) (fun h1 e2 e3 e4 => ?_)
  have c5 := (e3 22 (by decide)).trans c_22
  have fr6 : ∀ q, q ∉ ([39] : List Nat) → h1[q]? = h[q]? := fun q hq => e3 q (fun z => hq (by rw [z]; decide))
  refine ar_put ok_Mo_init rfl c5 (Nat.le_of_ble_eq_true rfl) rfl (fs' := [.ref 23, .int 0, .ref 24, .int 0, .int 0, .int 0, .ref 25, .int 0, .int 0, .ref 26, .int 1, .ref 27, .ref 28, .ref 29, .ref 30, .int 0, .int (-1), .ref 31, .ref 32, .ref 33, .ref 34, .ref 35, .ref 36, .ref 37, .ref 38, .int 0, .ref 39, .null, .null, .null, .int 0, .int 0, .int 0, .null, .null, .null, .null, .null, .null, .null, .null, .null, .null, .null, .null, .long 0, .null, .null, .int 0, .null, .null, .null, .long 0, .int 0, .int 0, .int 0, .int 0, .int 0, .int 0, .int 0, .int 0, .int 0]) rfl (pc' := 159) rfl (Nat.le_of_ble_eq_true rfl) (Nat.le_of_ble_eq_true rfl) (fun h7 e8 e9 e10 => ?_)
  have c11 := (e9 39 (by decide)).trans e2
  have fr12 : ∀ q, q ∉ ([39, 22] : List Nat) → h7[q]? = h[q]? := fun q hq => (e9 q (fun z => hq (by rw [z]; decide))).trans (fr6 q (am_sub (by decide) hq))
  refine am_steps ok_Mo_init 2 (x' := (163, [some (.ref 22), none], [.int 2000, .ref 22], h7, 17, 509456)) rfl (Nat.le_of_ble_eq_true rfl) (by show (509456 : Nat) ≤ 690408; omega) ?_
  refine ar_newa ok_Mo_init rfl rfl (N := 2000) (by decide +kernel) (by decide +kernel) (by decide) (ad := 40) (e10.trans e4) (by decide) (pc' := 165) rfl (k' := 18) rfl (n' := 511456) rfl (Nat.le_of_ble_eq_true rfl) (Nat.le_of_ble_eq_true rfl) (fun h13 e14 e15 e16 => ?_)
  have c17 := (e15 22 (by decide)).trans e8
  have c18 := (e15 39 (by decide)).trans c11
  have fr19 : ∀ q, q ∉ ([39, 22, 40] : List Nat) → h13[q]? = h[q]? := fun q hq => (e15 q (fun z => hq (by rw [z]; decide))).trans (fr12 q (am_sub (by decide) hq))
  refine ar_put ok_Mo_init rfl c17 (Nat.le_of_ble_eq_true rfl) rfl (fs' := [.ref 23, .int 0, .ref 24, .int 0, .int 0, .int 0, .ref 25, .int 0, .int 0, .ref 26, .int 1, .ref 27, .ref 28, .ref 29, .ref 30, .int 0, .int (-1), .ref 31, .ref 32, .ref 33, .ref 34, .ref 35, .ref 36, .ref 37, .ref 38, .int 0, .ref 39, .ref 40, .null, .null, .int 0, .int 0, .int 0, .null, .null, .null, .null, .null, .null, .null, .null, .null, .null, .null, .null, .long 0, .null, .null, .int 0, .null, .null, .null, .long 0, .int 0, .int 0, .int 0, .int 0, .int 0, .int 0, .int 0, .int 0, .int 0]) rfl (pc' := 168) rfl (Nat.le_of_ble_eq_true rfl) (Nat.le_of_ble_eq_true rfl) (fun h20 e21 e22 e23 => ?_)
  have c24 := (e22 39 (by decide)).trans c18
  have c25 := (e22 40 (by decide)).trans e14
  have fr26 : ∀ q, q ∉ ([39, 22, 40] : List Nat) → h20[q]? = h[q]? := fun q hq => (e22 q (fun z => hq (by rw [z]; decide))).trans (fr19 q (am_sub (by decide) hq))
  refine am_steps ok_Mo_init 2 (x' := (172, [some (.ref 22), none], [.int 2000, .ref 22], h20, 18, 511456)) rfl (Nat.le_of_ble_eq_true rfl) (by show (511456 : Nat) ≤ 690408; omega) ?_
  refine ar_newa ok_Mo_init rfl rfl (N := 2000) (by decide +kernel) (by decide +kernel) (by decide) (ad := 41) (e23.trans e16) (by decide) (pc' := 174) rfl (k' := 19) rfl (n' := 513456) rfl (Nat.le_of_ble_eq_true rfl) (Nat.le_of_ble_eq_true rfl) (fun h27 e28 e29 e30 => ?_)
  have c31 := (e29 22 (by decide)).trans e21
  have c32 := (e29 39 (by decide)).trans c24
  have c33 := (e29 40 (by decide)).trans c25
  have fr34 : ∀ q, q ∉ ([39, 22, 40, 41] : List Nat) → h27[q]? = h[q]? := fun q hq => (e29 q (fun z => hq (by rw [z]; decide))).trans (fr26 q (am_sub (by decide) hq))
  refine ar_put ok_Mo_init rfl c31 (Nat.le_of_ble_eq_true rfl) rfl (fs' := [.ref 23, .int 0, .ref 24, .int 0, .int 0, .int 0, .ref 25, .int 0, .int 0, .ref 26, .int 1, .ref 27, .ref 28, .ref 29, .ref 30, .int 0, .int (-1), .ref 31, .ref 32, .ref 33, .ref 34, .ref 35, .ref 36, .ref 37, .ref 38, .int 0, .ref 39, .ref 40, .ref 41, .null, .int 0, .int 0, .int 0, .null, .null, .null, .null, .null, .null, .null, .null, .null, .null, .null, .null, .long 0, .null, .null, .int 0, .null, .null, .null, .long 0, .int 0, .int 0, .int 0, .int 0, .int 0, .int 0, .int 0, .int 0, .int 0]) rfl (pc' := 177) rfl (Nat.le_of_ble_eq_true rfl) (Nat.le_of_ble_eq_true rfl) (fun h35 e36 e37 e38 => ?_)
  have c39 := (e37 39 (by decide)).trans c32
  have c40 := (e37 40 (by decide)).trans c33
  have c41 := (e37 41 (by decide)).trans e28
  have fr42 : ∀ q, q ∉ ([39, 22, 40, 41] : List Nat) → h35[q]? = h[q]? := fun q hq => (e37 q (fun z => hq (by rw [z]; decide))).trans (fr34 q (am_sub (by decide) hq))
  refine am_steps ok_Mo_init 2 (x' := (181, [some (.ref 22), none], [.int 2000, .ref 22], h35, 19, 513456)) rfl (Nat.le_of_ble_eq_true rfl) (by show (513456 : Nat) ≤ 690408; omega) ?_
  refine ar_newa ok_Mo_init rfl rfl (N := 2000) (by decide +kernel) (by decide +kernel) (by decide) (ad := 42) (e38.trans e30) (by decide) (pc' := 183) rfl (k' := 20) rfl (n' := 515456) rfl (Nat.le_of_ble_eq_true rfl) (Nat.le_of_ble_eq_true rfl) (fun h43 e44 e45 e46 => ?_)
  have c47 := (e45 22 (by decide)).trans e36
  have c48 := (e45 39 (by decide)).trans c39
  have c49 := (e45 40 (by decide)).trans c40
  have c50 := (e45 41 (by decide)).trans c41
  have fr51 : ∀ q, q ∉ ([39, 22, 40, 41, 42] : List Nat) → h43[q]? = h[q]? := fun q hq => (e45 q (fun z => hq (by rw [z]; decide))).trans (fr42 q (am_sub (by decide) hq))
  refine ar_put ok_Mo_init rfl c47 (Nat.le_of_ble_eq_true rfl) rfl (fs' := [.ref 23, .int 0, .ref 24, .int 0, .int 0, .int 0, .ref 25, .int 0, .int 0, .ref 26, .int 1, .ref 27, .ref 28, .ref 29, .ref 30, .int 0, .int (-1), .ref 31, .ref 32, .ref 33, .ref 34, .ref 35, .ref 36, .ref 37, .ref 38, .int 0, .ref 39, .ref 40, .ref 41, .ref 42, .int 0, .int 0, .int 0, .null, .null, .null, .null, .null, .null, .null, .null, .null, .null, .null, .null, .long 0, .null, .null, .int 0, .null, .null, .null, .long 0, .int 0, .int 0, .int 0, .int 0, .int 0, .int 0, .int 0, .int 0, .int 0]) rfl (pc' := 186) rfl (Nat.le_of_ble_eq_true rfl) (Nat.le_of_ble_eq_true rfl) (fun h52 e53 e54 e55 => ?_)
  have c56 := (e54 39 (by decide)).trans c48
  have c57 := (e54 40 (by decide)).trans c49
  have c58 := (e54 41 (by decide)).trans c50
  have c59 := (e54 42 (by decide)).trans e44
  have fr60 : ∀ q, q ∉ ([39, 22, 40, 41, 42] : List Nat) → h52[q]? = h[q]? := fun q hq => (e54 q (fun z => hq (by rw [z]; decide))).trans (fr51 q (am_sub (by decide) hq))
  exact kk h52 e53 c56 c57 c58 c59 (fr60) (e55.trans e46)
set_option maxHeartbeats 4000000 in
set_option maxRecDepth 100000 in
theorem mi_5 (Q : Option Value → am_H → Prop) (h : am_H) (hl : h.length = 43) (c_22 : h[22]? = some (.inr (1, [.ref 23, .int 0, .ref 24, .int 0, .int 0, .int 0, .ref 25, .int 0, .int 0, .ref 26, .int 1, .ref 27, .ref 28, .ref 29, .ref 30, .int 0, .int (-1), .ref 31, .ref 32, .ref 33, .ref 34, .ref 35, .ref 36, .ref 37, .ref 38, .int 0, .ref 39, .ref 40, .ref 41, .ref 42, .int 0, .int 0, .int 0, .null, .null, .null, .null, .null, .null, .null, .null, .null, .null, .null, .null, .long 0, .null, .null, .int 0, .null, .null, .null, .long 0, .int 0, .int 0, .int 0, .int 0, .int 0, .int 0, .int 0, .int 0, .int 0]))) (kk : ∀ h' : am_H, h'[22]? = some (.inr (1, [.ref 23, .int 0, .ref 24, .int 0, .int 0, .int 0, .ref 25, .int 0, .int 0, .ref 26, .int 1, .ref 27, .ref 28, .ref 29, .ref 30, .int 0, .int (-1), .ref 31, .ref 32, .ref 33, .ref 34, .ref 35, .ref 36, .ref 37, .ref 38, .int 0, .ref 39, .ref 40, .ref 41, .ref 42, .int 0, .int 0, .int 0, .ref 43, .ref 44, .ref 45, .ref 46, .null, .null, .null, .null, .null, .null, .null, .null, .long 0, .null, .null, .int 0, .null, .null, .null, .long 0, .int 0, .int 0, .int 0, .int 0, .int 0, .int 0, .int 0, .int 0, .int 0])) → h'[43]? = some (.inl (0, 250, .inl (fun _ => 0))) → h'[44]? = some (.inl (0, 250, .inl (fun _ => 0))) → h'[45]? = some (.inl (0, 250, .inl (fun _ => 0))) → h'[46]? = some (.inl (1, 250, .inr (.inl (fun _ => 0)))) → (∀ q, q ∉ ([43, 22, 44, 45, 46] : List Nat) → h'[q]? = h[q]?) → h'.length = 47 → am_S am_Pr none 1 23 37 690408 12 (222, [some (.ref 22), none], [], h', 24, 516456) Q) : am_S am_Pr none 1 23 37 690408 12 (186, [some (.ref 22), none], [], h, 20, 515456) Q := by
  refine am_steps ok_Mo_init 2 (x' := (190, [some (.ref 22), none], [.int 250, .ref 22], h, 20, 515456)) rfl (Nat.le_of_ble_eq_true rfl) (by show (515456 : Nat) ≤ 690408; omega) ?_
  refine ar_newa ok_Mo_init rfl rfl (N := 250) (by decide +kernel) (by decide +kernel) (by decide) (ad := 43) hl (by decide) (pc' := 192) rfl (k' := 21) rfl (n' := 515706) rfl (Nat.le_of_ble_eq_true rfl) (Nat.le_of_ble_eq_true rfl) (fun h1 e2 e3 e4 => ?_)
  have c5 := (e3 22 (by decide)).trans c_22
  have fr6 : ∀ q, q ∉ ([43] : List Nat) → h1[q]? = h[q]? := fun q hq => e3 q (fun z => hq (by rw [z]; decide))
  refine ar_put ok_Mo_init rfl c5 (Nat.le_of_ble_eq_true rfl) rfl (fs' := [.ref 23, .int 0, .ref 24, .int 0, .int 0, .int 0, .ref 25, .int 0, .int 0, .ref 26, .int 1, .ref 27, .ref 28, .ref 29, .ref 30, .int 0, .int (-1), .ref 31, .ref 32, .ref 33, .ref 34, .ref 35, .ref 36, .ref 37, .ref 38, .int 0, .ref 39, .ref 40, .ref 41, .ref 42, .int 0, .int 0, .int 0, .ref 43, .null, .null, .null, .null, .null, .null, .null, .null, .null, .null, .null, .long 0, .null, .null, .int 0, .null, .null, .null, .long 0, .int 0, .int 0, .int 0, .int 0, .int 0, .int 0, .int 0, .int 0, .int 0]) rfl (pc' := 195) rfl (Nat.le_of_ble_eq_true rfl) (Nat.le_of_ble_eq_true rfl) (fun h7 e8 e9 e10 => ?_)
  have c11 := (e9 43 (by decide)).trans e2
  have fr12 : ∀ q, q ∉ ([43, 22] : List Nat) → h7[q]? = h[q]? := fun q hq => (e9 q (fun z => hq (by rw [z]; decide))).trans (fr6 q (am_sub (by decide) hq))
  refine am_steps ok_Mo_init 2 (x' := (199, [some (.ref 22), none], [.int 250, .ref 22], h7, 21, 515706)) rfl (Nat.le_of_ble_eq_true rfl) (by show (515706 : Nat) ≤ 690408; omega) ?_
  refine ar_newa ok_Mo_init rfl rfl (N := 250) (by decide +kernel) (by decide +kernel) (by decide) (ad := 44) (e10.trans e4) (by decide) (pc' := 201) rfl (k' := 22) rfl (n' := 515956) rfl (Nat.le_of_ble_eq_true rfl) (Nat.le_of_ble_eq_true rfl) (fun h13 e14 e15 e16 => ?_)
  have c17 := (e15 22 (by decide)).trans e8
  have c18 := (e15 43 (by decide)).trans c11
  have fr19 : ∀ q, q ∉ ([43, 22, 44] : List Nat) → h13[q]? = h[q]? := fun q hq => (e15 q (fun z => hq (by rw [z]; decide))).trans (fr12 q (am_sub (by decide) hq))
  refine ar_put ok_Mo_init rfl c17 (Nat.le_of_ble_eq_true rfl) rfl (fs' := [.ref 23, .int 0, .ref 24, .int 0, .int 0, .int 0, .ref 25, .int 0, .int 0, .ref 26, .int 1, .ref 27, .ref 28, .ref 29, .ref 30, .int 0, .int (-1), .ref 31, .ref 32, .ref 33, .ref 34, .ref 35, .ref 36, .ref 37, .ref 38, .int 0, .ref 39, .ref 40, .ref 41, .ref 42, .int 0, .int 0, .int 0, .ref 43, .ref 44, .null, .null, .null, .null, .null, .null, .null, .null, .null, .null, .long 0, .null, .null, .int 0, .null, .null, .null, .long 0, .int 0, .int 0, .int 0, .int 0, .int 0, .int 0, .int 0, .int 0, .int 0]) rfl (pc' := 204) rfl (Nat.le_of_ble_eq_true rfl) (Nat.le_of_ble_eq_true rfl) (fun h20 e21 e22 e23 => ?_)
  have c24 := (e22 43 (by decide)).trans c18
  have c25 := (e22 44 (by decide)).trans e14
  have fr26 : ∀ q, q ∉ ([43, 22, 44] : List Nat) → h20[q]? = h[q]? := fun q hq => (e22 q (fun z => hq (by rw [z]; decide))).trans (fr19 q (am_sub (by decide) hq))
  refine am_steps ok_Mo_init 2 (x' := (208, [some (.ref 22), none], [.int 250, .ref 22], h20, 22, 515956)) rfl (Nat.le_of_ble_eq_true rfl) (by show (515956 : Nat) ≤ 690408; omega) ?_
  refine ar_newa ok_Mo_init rfl rfl (N := 250) (by decide +kernel) (by decide +kernel) (by decide) (ad := 45) (e23.trans e16) (by decide) (pc' := 210) rfl (k' := 23) rfl (n' := 516206) rfl (Nat.le_of_ble_eq_true rfl) (Nat.le_of_ble_eq_true rfl) (fun h27 e28 e29 e30 => ?_)
  have c31 := (e29 22 (by decide)).trans e21
  have c32 := (e29 43 (by decide)).trans c24
  have c33 := (e29 44 (by decide)).trans c25
  have fr34 : ∀ q, q ∉ ([43, 22, 44, 45] : List Nat) → h27[q]? = h[q]? := fun q hq => (e29 q (fun z => hq (by rw [z]; decide))).trans (fr26 q (am_sub (by decide) hq))
  refine ar_put ok_Mo_init rfl c31 (Nat.le_of_ble_eq_true rfl) rfl (fs' := [.ref 23, .int 0, .ref 24, .int 0, .int 0, .int 0, .ref 25, .int 0, .int 0, .ref 26, .int 1, .ref 27, .ref 28, .ref 29, .ref 30, .int 0, .int (-1), .ref 31, .ref 32, .ref 33, .ref 34, .ref 35, .ref 36, .ref 37, .ref 38, .int 0, .ref 39, .ref 40, .ref 41, .ref 42, .int 0, .int 0, .int 0, .ref 43, .ref 44, .ref 45, .null, .null, .null, .null, .null, .null, .null, .null, .null, .long 0, .null, .null, .int 0, .null, .null, .null, .long 0, .int 0, .int 0, .int 0, .int 0, .int 0, .int 0, .int 0, .int 0, .int 0]) rfl (pc' := 213) rfl (Nat.le_of_ble_eq_true rfl) (Nat.le_of_ble_eq_true rfl) (fun h35 e36 e37 e38 => ?_)
  have c39 := (e37 43 (by decide)).trans c32
  have c40 := (e37 44 (by decide)).trans c33
  have c41 := (e37 45 (by decide)).trans e28
  have fr42 : ∀ q, q ∉ ([43, 22, 44, 45] : List Nat) → h35[q]? = h[q]? := fun q hq => (e37 q (fun z => hq (by rw [z]; decide))).trans (fr34 q (am_sub (by decide) hq))
  refine am_steps ok_Mo_init 2 (x' := (217, [some (.ref 22), none], [.int 250, .ref 22], h35, 23, 516206)) rfl (Nat.le_of_ble_eq_true rfl) (by show (516206 : Nat) ≤ 690408; omega) ?_
  refine ar_newa ok_Mo_init rfl rfl (N := 250) (by decide +kernel) (by decide +kernel) (by decide) (ad := 46) (e38.trans e30) (by decide) (pc' := 219) rfl (k' := 24) rfl (n' := 516456) rfl (Nat.le_of_ble_eq_true rfl) (Nat.le_of_ble_eq_true rfl) (fun h43 e44 e45 e46 => ?_)
  have c47 := (e45 22 (by decide)).trans e36
  have c48 := (e45 43 (by decide)).trans c39
  have c49 := (e45 44 (by decide)).trans c40
  have c50 := (e45 45 (by decide)).trans c41
  have fr51 : ∀ q, q ∉ ([43, 22, 44, 45, 46] : List Nat) → h43[q]? = h[q]? := fun q hq => (e45 q (fun z => hq (by rw [z]; decide))).trans (fr42 q (am_sub (by decide) hq))
  refine ar_put ok_Mo_init rfl c47 (Nat.le_of_ble_eq_true rfl) rfl (fs' := [.ref 23, .int 0, .ref 24, .int 0, .int 0, .int 0, .ref 25, .int 0, .int 0, .ref 26, .int 1, .ref 27, .ref 28, .ref 29, .ref 30, .int 0, .int (-1), .ref 31, .ref 32, .ref 33, .ref 34, .ref 35, .ref 36, .ref 37, .ref 38, .int 0, .ref 39, .ref 40, .ref 41, .ref 42, .int 0, .int 0, .int 0, .ref 43, .ref 44, .ref 45, .ref 46, .null, .null, .null, .null, .null, .null, .null, .null, .long 0, .null, .null, .int 0, .null, .null, .null, .long 0, .int 0, .int 0, .int 0, .int 0, .int 0, .int 0, .int 0, .int 0, .int 0]) rfl (pc' := 222) rfl (Nat.le_of_ble_eq_true rfl) (Nat.le_of_ble_eq_true rfl) (fun h52 e53 e54 e55 => ?_)
  have c56 := (e54 43 (by decide)).trans c48
  have c57 := (e54 44 (by decide)).trans c49
  have c58 := (e54 45 (by decide)).trans c50
  have c59 := (e54 46 (by decide)).trans e44
  have fr60 : ∀ q, q ∉ ([43, 22, 44, 45, 46] : List Nat) → h52[q]? = h[q]? := fun q hq => (e54 q (fun z => hq (by rw [z]; decide))).trans (fr51 q (am_sub (by decide) hq))
  exact kk h52 e53 c56 c57 c58 c59 (fr60) (e55.trans e46)
set_option maxHeartbeats 4000000 in
set_option maxRecDepth 100000 in
theorem mi_6 (Q : Option Value → am_H → Prop) (h : am_H) (hl : h.length = 47) (c_22 : h[22]? = some (.inr (1, [.ref 23, .int 0, .ref 24, .int 0, .int 0, .int 0, .ref 25, .int 0, .int 0, .ref 26, .int 1, .ref 27, .ref 28, .ref 29, .ref 30, .int 0, .int (-1), .ref 31, .ref 32, .ref 33, .ref 34, .ref 35, .ref 36, .ref 37, .ref 38, .int 0, .ref 39, .ref 40, .ref 41, .ref 42, .int 0, .int 0, .int 0, .ref 43, .ref 44, .ref 45, .ref 46, .null, .null, .null, .null, .null, .null, .null, .null, .long 0, .null, .null, .int 0, .null, .null, .null, .long 0, .int 0, .int 0, .int 0, .int 0, .int 0, .int 0, .int 0, .int 0, .int 0]))) (kk : ∀ h' : am_H, h'[22]? = some (.inr (1, [.ref 23, .int 0, .ref 24, .int 0, .int 0, .int 0, .ref 25, .int 0, .int 0, .ref 26, .int 1, .ref 27, .ref 28, .ref 29, .ref 30, .int 0, .int (-1), .ref 31, .ref 32, .ref 33, .ref 34, .ref 35, .ref 36, .ref 37, .ref 38, .int 0, .ref 39, .ref 40, .ref 41, .ref 42, .int 0, .int 0, .int 0, .ref 43, .ref 44, .ref 45, .ref 46, .ref 47, .ref 48, .ref 49, .ref 50, .null, .null, .null, .null, .long 0, .null, .null, .int 0, .null, .null, .null, .long 0, .int 0, .int 0, .int 0, .int 0, .int 0, .int 0, .int 0, .int 0, .int 0])) → h'[47]? = some (.inl (1, 250, .inr (.inl (fun _ => 0)))) → h'[48]? = some (.inl (3, 250, .inl (fun _ => 0))) → h'[49]? = some (.inl (3, 250, .inl (fun _ => 0))) → h'[50]? = some (.inl (0, 1000, .inl (fun _ => 0))) → (∀ q, q ∉ ([47, 22, 48, 49, 50] : List Nat) → h'[q]? = h[q]?) → h'.length = 51 → am_S am_Pr none 1 23 37 690408 12 (258, [some (.ref 22), none], [], h', 28, 518206) Q) : am_S am_Pr none 1 23 37 690408 12 (222, [some (.ref 22), none], [], h, 24, 516456) Q := by
  refine am_steps ok_Mo_init 2 (x' := (226, [some (.ref 22), none], [.int 250, .ref 22], h, 24, 516456)) rfl (Nat.le_of_ble_eq_true rfl) (by show (516456 : Nat) ≤ 690408; omega) ?_
  refine ar_newa ok_Mo_init rfl rfl (N := 250) (by decide +kernel) (by decide +kernel) (by decide) (ad := 47) hl (by decide) (pc' := 228) rfl (k' := 25) rfl (n' := 516706) rfl (Nat.le_of_ble_eq_true rfl) (Nat.le_of_ble_eq_true rfl) (fun h1 e2 e3 e4 => ?_)
  have c5 := (e3 22 (by decide)).trans c_22
  have fr6 : ∀ q, q ∉ ([47] : List Nat) → h1[q]? = h[q]? := fun q hq => e3 q (fun z => hq (by rw [z]; decide))
  refine ar_put ok_Mo_init rfl c5 (Nat.le_of_ble_eq_true rfl) rfl (fs' := [.ref 23, .int 0, .ref 24, .int 0, .int 0, .int 0, .ref 25, .int 0, .int 0, .ref 26, .int 1, .ref 27, .ref 28, .ref 29, .ref 30, .int 0, .int (-1), .ref 31, .ref 32, .ref 33, .ref 34, .ref 35, .ref 36, .ref 37, .ref 38, .int 0, .ref 39, .ref 40, .ref 41, .ref 42, .int 0, .int 0, .int 0, .ref 43, .ref 44, .ref 45, .ref 46, .ref 47, .null, .null, .null, .null, .null, .null, .null, .long 0, .null, .null, .int 0, .null, .null, .null, .long 0, .int 0, .int 0, .int 0, .int 0, .int 0, .int 0, .int 0, .int 0, .int 0]) rfl (pc' := 231) rfl (Nat.le_of_ble_eq_true rfl) (Nat.le_of_ble_eq_true rfl) (fun h7 e8 e9 e10 => ?_)
  have c11 := (e9 47 (by decide)).trans e2
  have fr12 : ∀ q, q ∉ ([47, 22] : List Nat) → h7[q]? = h[q]? := fun q hq => (e9 q (fun z => hq (by rw [z]; decide))).trans (fr6 q (am_sub (by decide) hq))
  refine am_steps ok_Mo_init 2 (x' := (235, [some (.ref 22), none], [.int 250, .ref 22], h7, 25, 516706)) rfl (Nat.le_of_ble_eq_true rfl) (by show (516706 : Nat) ≤ 690408; omega) ?_
  refine ar_newa ok_Mo_init rfl rfl (N := 250) (by decide +kernel) (by decide +kernel) (by decide) (ad := 48) (e10.trans e4) (by decide) (pc' := 237) rfl (k' := 26) rfl (n' := 516956) rfl (Nat.le_of_ble_eq_true rfl) (Nat.le_of_ble_eq_true rfl) (fun h13 e14 e15 e16 => ?_)
  have c17 := (e15 22 (by decide)).trans e8
  have c18 := (e15 47 (by decide)).trans c11
  have fr19 : ∀ q, q ∉ ([47, 22, 48] : List Nat) → h13[q]? = h[q]? := fun q hq => (e15 q (fun z => hq (by rw [z]; decide))).trans (fr12 q (am_sub (by decide) hq))
  refine ar_put ok_Mo_init rfl c17 (Nat.le_of_ble_eq_true rfl) rfl (fs' := [.ref 23, .int 0, .ref 24, .int 0, .int 0, .int 0, .ref 25, .int 0, .int 0, .ref 26, .int 1, .ref 27, .ref 28, .ref 29, .ref 30, .int 0, .int (-1), .ref 31, .ref 32, .ref 33, .ref 34, .ref 35, .ref 36, .ref 37, .ref 38, .int 0, .ref 39, .ref 40, .ref 41, .ref 42, .int 0, .int 0, .int 0, .ref 43, .ref 44, .ref 45, .ref 46, .ref 47, .ref 48, .null, .null, .null, .null, .null, .null, .long 0, .null, .null, .int 0, .null, .null, .null, .long 0, .int 0, .int 0, .int 0, .int 0, .int 0, .int 0, .int 0, .int 0, .int 0]) rfl (pc' := 240) rfl (Nat.le_of_ble_eq_true rfl) (Nat.le_of_ble_eq_true rfl) (fun h20 e21 e22 e23 => ?_)
  have c24 := (e22 47 (by decide)).trans c18
  have c25 := (e22 48 (by decide)).trans e14
  have fr26 : ∀ q, q ∉ ([47, 22, 48] : List Nat) → h20[q]? = h[q]? := fun q hq => (e22 q (fun z => hq (by rw [z]; decide))).trans (fr19 q (am_sub (by decide) hq))
  refine am_steps ok_Mo_init 2 (x' := (244, [some (.ref 22), none], [.int 250, .ref 22], h20, 26, 516956)) rfl (Nat.le_of_ble_eq_true rfl) (by show (516956 : Nat) ≤ 690408; omega) ?_
  refine ar_newa ok_Mo_init rfl rfl (N := 250) (by decide +kernel) (by decide +kernel) (by decide) (ad := 49) (e23.trans e16) (by decide) (pc' := 246) rfl (k' := 27) rfl (n' := 517206) rfl (Nat.le_of_ble_eq_true rfl) (Nat.le_of_ble_eq_true rfl) (fun h27 e28 e29 e30 => ?_)
  have c31 := (e29 22 (by decide)).trans e21
  have c32 := (e29 47 (by decide)).trans c24
  have c33 := (e29 48 (by decide)).trans c25
  have fr34 : ∀ q, q ∉ ([47, 22, 48, 49] : List Nat) → h27[q]? = h[q]? := fun q hq => (e29 q (fun z => hq (by rw [z]; decide))).trans (fr26 q (am_sub (by decide) hq))
  refine ar_put ok_Mo_init rfl c31 (Nat.le_of_ble_eq_true rfl) rfl (fs' := [.ref 23, .int 0, .ref 24, .int 0, .int 0, .int 0, .ref 25, .int 0, .int 0, .ref 26, .int 1, .ref 27, .ref 28, .ref 29, .ref 30, .int 0, .int (-1), .ref 31, .ref 32, .ref 33, .ref 34, .ref 35, .ref 36, .ref 37, .ref 38, .int 0, .ref 39, .ref 40, .ref 41, .ref 42, .int 0, .int 0, .int 0, .ref 43, .ref 44, .ref 45, .ref 46, .ref 47, .ref 48, .ref 49, .null, .null, .null, .null, .null, .long 0, .null, .null, .int 0, .null, .null, .null, .long 0, .int 0, .int 0, .int 0, .int 0, .int 0, .int 0, .int 0, .int 0, .int 0]) rfl (pc' := 249) rfl (Nat.le_of_ble_eq_true rfl) (Nat.le_of_ble_eq_true rfl) (fun h35 e36 e37 e38 => ?_)
  have c39 := (e37 47 (by decide)).trans c32
  have c40 := (e37 48 (by decide)).trans c33
  have c41 := (e37 49 (by decide)).trans e28
  have fr42 : ∀ q, q ∉ ([47, 22, 48, 49] : List Nat) → h35[q]? = h[q]? := fun q hq => (e37 q (fun z => hq (by rw [z]; decide))).trans (fr34 q (am_sub (by decide) hq))
  refine am_steps ok_Mo_init 2 (x' := (253, [some (.ref 22), none], [.int 1000, .ref 22], h35, 27, 517206)) rfl (Nat.le_of_ble_eq_true rfl) (by show (517206 : Nat) ≤ 690408; omega) ?_
  refine ar_newa ok_Mo_init rfl rfl (N := 1000) (by decide +kernel) (by decide +kernel) (by decide) (ad := 50) (e38.trans e30) (by decide) (pc' := 255) rfl (k' := 28) rfl (n' := 518206) rfl (Nat.le_of_ble_eq_true rfl) (Nat.le_of_ble_eq_true rfl) (fun h43 e44 e45 e46 => ?_)
  have c47 := (e45 22 (by decide)).trans e36
  have c48 := (e45 47 (by decide)).trans c39
  have c49 := (e45 48 (by decide)).trans c40
  have c50 := (e45 49 (by decide)).trans c41
  have fr51 : ∀ q, q ∉ ([47, 22, 48, 49, 50] : List Nat) → h43[q]? = h[q]? := fun q hq => (e45 q (fun z => hq (by rw [z]; decide))).trans (fr42 q (am_sub (by decide) hq))
  refine ar_put ok_Mo_init rfl c47 (Nat.le_of_ble_eq_true rfl) rfl (fs' := [.ref 23, .int 0, .ref 24, .int 0, .int 0, .int 0, .ref 25, .int 0, .int 0, .ref 26, .int 1, .ref 27, .ref 28, .ref 29, .ref 30, .int 0, .int (-1), .ref 31, .ref 32, .ref 33, .ref 34, .ref 35, .ref 36, .ref 37, .ref 38, .int 0, .ref 39, .ref 40, .ref 41, .ref 42, .int 0, .int 0, .int 0, .ref 43, .ref 44, .ref 45, .ref 46, .ref 47, .ref 48, .ref 49, .ref 50, .null, .null, .null, .null, .long 0, .null, .null, .int 0, .null, .null, .null, .long 0, .int 0, .int 0, .int 0, .int 0, .int 0, .int 0, .int 0, .int 0, .int 0]) rfl (pc' := 258) rfl (Nat.le_of_ble_eq_true rfl) (Nat.le_of_ble_eq_true rfl) (fun h52 e53 e54 e55 => ?_)
  have c56 := (e54 47 (by decide)).trans c48
  have c57 := (e54 48 (by decide)).trans c49
  have c58 := (e54 49 (by decide)).trans c50
  have c59 := (e54 50 (by decide)).trans e44
  have fr60 : ∀ q, q ∉ ([47, 22, 48, 49, 50] : List Nat) → h52[q]? = h[q]? := fun q hq => (e54 q (fun z => hq (by rw [z]; decide))).trans (fr51 q (am_sub (by decide) hq))
  exact kk h52 e53 c56 c57 c58 c59 (fr60) (e55.trans e46)
set_option maxHeartbeats 4000000 in
set_option maxRecDepth 100000 in
theorem mi_7 (Q : Option Value → am_H → Prop) (h : am_H) (hl : h.length = 51) (c_22 : h[22]? = some (.inr (1, [.ref 23, .int 0, .ref 24, .int 0, .int 0, .int 0, .ref 25, .int 0, .int 0, .ref 26, .int 1, .ref 27, .ref 28, .ref 29, .ref 30, .int 0, .int (-1), .ref 31, .ref 32, .ref 33, .ref 34, .ref 35, .ref 36, .ref 37, .ref 38, .int 0, .ref 39, .ref 40, .ref 41, .ref 42, .int 0, .int 0, .int 0, .ref 43, .ref 44, .ref 45, .ref 46, .ref 47, .ref 48, .ref 49, .ref 50, .null, .null, .null, .null, .long 0, .null, .null, .int 0, .null, .null, .null, .long 0, .int 0, .int 0, .int 0, .int 0, .int 0, .int 0, .int 0, .int 0, .int 0]))) (kk : ∀ h' : am_H, h'[22]? = some (.inr (1, [.ref 23, .int 0, .ref 24, .int 0, .int 0, .int 0, .ref 25, .int 0, .int 0, .ref 26, .int 1, .ref 27, .ref 28, .ref 29, .ref 30, .int 0, .int (-1), .ref 31, .ref 32, .ref 33, .ref 34, .ref 35, .ref 36, .ref 37, .ref 38, .int 0, .ref 39, .ref 40, .ref 41, .ref 42, .int 0, .int 0, .int 0, .ref 43, .ref 44, .ref 45, .ref 46, .ref 47, .ref 48, .ref 49, .ref 50, .ref 51, .ref 52, .ref 53, .ref 54, .long 0, .null, .null, .int 0, .null, .null, .null, .long 0, .int 0, .int 0, .int 0, .int 0, .int 0, .int 0, .int 0, .int 0, .int 0])) → h'[51]? = some (.inl (0, 1000, .inl (fun _ => 0))) → h'[52]? = some (.inl (0, 1000, .inl (fun _ => 0))) → h'[53]? = some (.inl (1, 1000, .inr (.inl (fun _ => 0)))) → h'[54]? = some (.inl (3, 1000, .inl (fun _ => 0))) → (∀ q, q ∉ ([51, 22, 52, 53, 54] : List Nat) → h'[q]? = h[q]?) → h'.length = 55 → am_S am_Pr none 1 23 37 690408 12 (294, [some (.ref 22), none], [], h', 32, 522206) Q) : am_S am_Pr none 1 23 37 690408 12 (258, [some (.ref 22), none], [], h, 28, 518206) Q := by
  refine am_steps ok_Mo_init 2 (x' := (262, [some (.ref 22), none], [.int 1000, .ref 22], h, 28, 518206)) rfl (Nat.le_of_ble_eq_true rfl) (by show (518206 : Nat) ≤ 690408; omega) ?_
  refine ar_newa ok_Mo_init rfl rfl (N := 1000) (by decide +kernel) (by decide +kernel) (by decide) (ad := 51) hl (by decide) (pc' := 264) rfl (k' := 29) rfl (n' := 519206) rfl (Nat.le_of_ble_eq_true rfl) (Nat.le_of_ble_eq_true rfl) (fun h1 e2 e3 e4 => ?_)
  have c5 := (e3 22 (by decide)).trans c_22
  have fr6 : ∀ q, q ∉ ([51] : List Nat) → h1[q]? = h[q]? := fun q hq => e3 q (fun z => hq (by rw [z]; decide))
  refine ar_put ok_Mo_init rfl c5 (Nat.le_of_ble_eq_true rfl) rfl (fs' := [.ref 23, .int 0, .ref 24, .int 0, .int 0, .int 0, .ref 25, .int 0, .int 0, .ref 26, .int 1, .ref 27, .ref 28, .ref 29, .ref 30, .int 0, .int (-1), .ref 31, .ref 32, .ref 33, .ref 34, .ref 35, .ref 36, .ref 37, .ref 38, .int 0, .ref 39, .ref 40, .ref 41, .ref 42, .int 0, .int 0, .int 0, .ref 43, .ref 44, .ref 45, .ref 46, .ref 47, .ref 48, .ref 49, .ref 50, .ref 51, .null, .null, .null, .long 0, .null, .null, .int 0, .null, .null, .null, .long 0, .int 0, .int 0, .int 0, .int 0, .int 0, .int 0, .int 0, .int 0, .int 0]) rfl (pc' := 267) rfl (Nat.le_of_ble_eq_true rfl) (Nat.le_of_ble_eq_true rfl) (fun h7 e8 e9 e10 => ?_)
  have c11 := (e9 51 (by decide)).trans e2
  have fr12 : ∀ q, q ∉ ([51, 22] : List Nat) → h7[q]? = h[q]? := fun q hq => (e9 q (fun z => hq (by rw [z]; decide))).trans (fr6 q (am_sub (by decide) hq))
  refine am_steps ok_Mo_init 2 (x' := (271, [some (.ref 22), none], [.int 1000, .ref 22], h7, 29, 519206)) rfl (Nat.le_of_ble_eq_true rfl) (by show (519206 : Nat) ≤ 690408; omega) ?_
  refine ar_newa ok_Mo_init rfl rfl (N := 1000) (by decide +kernel) (by decide +kernel) (by decide) (ad := 52) (e10.trans e4) (by decide) (pc' := 273) rfl (k' := 30) rfl (n' := 520206) rfl (Nat.le_of_ble_eq_true rfl) (Nat.le_of_ble_eq_true rfl) (fun h13 e14 e15 e16 => ?_)
  have c17 := (e15 22 (by decide)).trans e8
  have c18 := (e15 51 (by decide)).trans c11
  have fr19 : ∀ q, q ∉ ([51, 22, 52] : List Nat) → h13[q]? = h[q]? := fun q hq => (e15 q (fun z => hq (by rw [z]; decide))).trans (fr12 q (am_sub (by decide) hq))
  refine ar_put ok_Mo_init rfl c17 (Nat.le_of_ble_eq_true rfl) rfl (fs' := [.ref 23, .int 0, .ref 24, .int 0, .int 0, .int 0, .ref 25, .int 0, .int 0, .ref 26, .int 1, .ref 27, .ref 28, .ref 29, .ref 30, .int 0, .int (-1), .ref 31, .ref 32, .ref 33, .ref 34, .ref 35, .ref 36, .ref 37, .ref 38, .int 0, .ref 39, .ref 40, .ref 41, .ref 42, .int 0, .int 0, .int 0, .ref 43, .ref 44, .ref 45, .ref 46, .ref 47, .ref 48, .ref 49, .ref 50, .ref 51, .ref 52, .null, .null, .long 0, .null, .null, .int 0, .null, .null, .null, .long 0, .int 0, .int 0, .int 0, .int 0, .int 0, .int 0, .int 0, .int 0, .int 0]) rfl (pc' := 276) rfl (Nat.le_of_ble_eq_true rfl) (Nat.le_of_ble_eq_true rfl) (fun h20 e21 e22 e23 => ?_)
  have c24 := (e22 51 (by decide)).trans c18
  have c25 := (e22 52 (by decide)).trans e14
  have fr26 : ∀ q, q ∉ ([51, 22, 52] : List Nat) → h20[q]? = h[q]? := fun q hq => (e22 q (fun z => hq (by rw [z]; decide))).trans (fr19 q (am_sub (by decide) hq))
  refine am_steps ok_Mo_init 2 (x' := (280, [some (.ref 22), none], [.int 1000, .ref 22], h20, 30, 520206)) rfl (Nat.le_of_ble_eq_true rfl) (by show (520206 : Nat) ≤ 690408; omega) ?_
  refine ar_newa ok_Mo_init rfl rfl (N := 1000) (by decide +kernel) (by decide +kernel) (by decide) (ad := 53) (e23.trans e16) (by decide) (pc' := 282) rfl (k' := 31) rfl (n' := 521206) rfl (Nat.le_of_ble_eq_true rfl) (Nat.le_of_ble_eq_true rfl) (fun h27 e28 e29 e30 => ?_)
  have c31 := (e29 22 (by decide)).trans e21
  have c32 := (e29 51 (by decide)).trans c24
  have c33 := (e29 52 (by decide)).trans c25
  have fr34 : ∀ q, q ∉ ([51, 22, 52, 53] : List Nat) → h27[q]? = h[q]? := fun q hq => (e29 q (fun z => hq (by rw [z]; decide))).trans (fr26 q (am_sub (by decide) hq))
  refine ar_put ok_Mo_init rfl c31 (Nat.le_of_ble_eq_true rfl) rfl (fs' := [.ref 23, .int 0, .ref 24, .int 0, .int 0, .int 0, .ref 25, .int 0, .int 0, .ref 26, .int 1, .ref 27, .ref 28, .ref 29, .ref 30, .int 0, .int (-1), .ref 31, .ref 32, .ref 33, .ref 34, .ref 35, .ref 36, .ref 37, .ref 38, .int 0, .ref 39, .ref 40, .ref 41, .ref 42, .int 0, .int 0, .int 0, .ref 43, .ref 44, .ref 45, .ref 46, .ref 47, .ref 48, .ref 49, .ref 50, .ref 51, .ref 52, .ref 53, .null, .long 0, .null, .null, .int 0, .null, .null, .null, .long 0, .int 0, .int 0, .int 0, .int 0, .int 0, .int 0, .int 0, .int 0, .int 0]) rfl (pc' := 285) rfl (Nat.le_of_ble_eq_true rfl) (Nat.le_of_ble_eq_true rfl) (fun h35 e36 e37 e38 => ?_)
  have c39 := (e37 51 (by decide)).trans c32
  have c40 := (e37 52 (by decide)).trans c33
  have c41 := (e37 53 (by decide)).trans e28
  have fr42 : ∀ q, q ∉ ([51, 22, 52, 53] : List Nat) → h35[q]? = h[q]? := fun q hq => (e37 q (fun z => hq (by rw [z]; decide))).trans (fr34 q (am_sub (by decide) hq))
  refine am_steps ok_Mo_init 2 (x' := (289, [some (.ref 22), none], [.int 1000, .ref 22], h35, 31, 521206)) rfl (Nat.le_of_ble_eq_true rfl) (by show (521206 : Nat) ≤ 690408; omega) ?_
  refine ar_newa ok_Mo_init rfl rfl (N := 1000) (by decide +kernel) (by decide +kernel) (by decide) (ad := 54) (e38.trans e30) (by decide) (pc' := 291) rfl (k' := 32) rfl (n' := 522206) rfl (Nat.le_of_ble_eq_true rfl) (Nat.le_of_ble_eq_true rfl) (fun h43 e44 e45 e46 => ?_)
  have c47 := (e45 22 (by decide)).trans e36
  have c48 := (e45 51 (by decide)).trans c39
  have c49 := (e45 52 (by decide)).trans c40
  have c50 := (e45 53 (by decide)).trans c41
  have fr51 : ∀ q, q ∉ ([51, 22, 52, 53, 54] : List Nat) → h43[q]? = h[q]? := fun q hq => (e45 q (fun z => hq (by rw [z]; decide))).trans (fr42 q (am_sub (by decide) hq))
  refine ar_put ok_Mo_init rfl c47 (Nat.le_of_ble_eq_true rfl) rfl (fs' := [.ref 23, .int 0, .ref 24, .int 0, .int 0, .int 0, .ref 25, .int 0, .int 0, .ref 26, .int 1, .ref 27, .ref 28, .ref 29, .ref 30, .int 0, .int (-1), .ref 31, .ref 32, .ref 33, .ref 34, .ref 35, .ref 36, .ref 37, .ref 38, .int 0, .ref 39, .ref 40, .ref 41, .ref 42, .int 0, .int 0, .int 0, .ref 43, .ref 44, .ref 45, .ref 46, .ref 47, .ref 48, .ref 49, .ref 50, .ref 51, .ref 52, .ref 53, .ref 54, .long 0, .null, .null, .int 0, .null, .null, .null, .long 0, .int 0, .int 0, .int 0, .int 0, .int 0, .int 0, .int 0, .int 0, .int 0]) rfl (pc' := 294) rfl (Nat.le_of_ble_eq_true rfl) (Nat.le_of_ble_eq_true rfl) (fun h52 e53 e54 e55 => ?_)
  have c56 := (e54 51 (by decide)).trans c48
  have c57 := (e54 52 (by decide)).trans c49
  have c58 := (e54 53 (by decide)).trans c50
  have c59 := (e54 54 (by decide)).trans e44
  have fr60 : ∀ q, q ∉ ([51, 22, 52, 53, 54] : List Nat) → h52[q]? = h[q]? := fun q hq => (e54 q (fun z => hq (by rw [z]; decide))).trans (fr51 q (am_sub (by decide) hq))
  exact kk h52 e53 c56 c57 c58 c59 (fr60) (e55.trans e46)
set_option maxHeartbeats 4000000 in
set_option maxRecDepth 100000 in
theorem mi_8 (Q : Option Value → am_H → Prop) (h : am_H) (hl : h.length = 55) (c_22 : h[22]? = some (.inr (1, [.ref 23, .int 0, .ref 24, .int 0, .int 0, .int 0, .ref 25, .int 0, .int 0, .ref 26, .int 1, .ref 27, .ref 28, .ref 29, .ref 30, .int 0, .int (-1), .ref 31, .ref 32, .ref 33, .ref 34, .ref 35, .ref 36, .ref 37, .ref 38, .int 0, .ref 39, .ref 40, .ref 41, .ref 42, .int 0, .int 0, .int 0, .ref 43, .ref 44, .ref 45, .ref 46, .ref 47, .ref 48, .ref 49, .ref 50, .ref 51, .ref 52, .ref 53, .ref 54, .long 0, .null, .null, .int 0, .null, .null, .null, .long 0, .int 0, .int 0, .int 0, .int 0, .int 0, .int 0, .int 0, .int 0, .int 0]))) (kk : ∀ h' : am_H, h'[22]? = some (.inr (1, [.ref 23, .int 0, .ref 24, .int 0, .int 0, .int 0, .ref 25, .int 0, .int 0, .ref 26, .int 1, .ref 27, .ref 28, .ref 29, .ref 30, .int 0, .int (-1), .ref 31, .ref 32, .ref 33, .ref 34, .ref 35, .ref 36, .ref 37, .ref 38, .int 0, .ref 39, .ref 40, .ref 41, .ref 42, .int 0, .int 0, .int 0, .ref 43, .ref 44, .ref 45, .ref 46, .ref 47, .ref 48, .ref 49, .ref 50, .ref 51, .ref 52, .ref 53, .ref 54, .long 0, .ref 55, .ref 56, .int 0, .ref 57, .ref 58, .null, .long 0, .int 0, .int 0, .int 0, .int 0, .int 0, .int 0, .int 0, .int 0, .int 0])) → h'[55]? = some (.inl (0, 250, .inl (fun _ => 0))) → h'[56]? = some (.inl (0, 4096, .inl (fun _ => 0))) → h'[57]? = some (.inl (0, 16, .inl (fun _ => 0))) → h'[58]? = some (.inl (3, 81920, .inl (fun _ => 0))) → (∀ q, q ∉ ([55, 22, 56, 57, 58] : List Nat) → h'[q]? = h[q]?) → h'.length = 59 → am_S am_Pr none 1 23 37 690408 12 (328, [some (.ref 22), none], [], h', 36, 608488) Q) : am_S am_Pr none 1 23 37 690408 12 (294, [some (.ref 22), none], [], h, 32, 522206) Q := by
  refine am_steps ok_Mo_init 2 (x' := (298, [some (.ref 22), none], [.int 250, .ref 22], h, 32, 522206)) rfl (Nat.le_of_ble_eq_true rfl) (by show (522206 : Nat) ≤ 690408; omega) ?_
  refine ar_newa ok_Mo_init rfl rfl (N := 250) (by decide +kernel) (by decide +kernel) (by decide) (ad := 55) hl (by decide) (pc' := 300) rfl (k' := 33) rfl (n' := 522456) rfl (Nat.le_of_ble_eq_true rfl) (Nat.le_of_ble_eq_true rfl) (fun h1 e2 e3 e4 => ?_)
  have c5 := (e3 22 (by decide)).trans c_22
  have fr6 : ∀ q, q ∉ ([55] : List Nat) → h1[q]? = h[q]? := fun q hq => e3 q (fun z => hq (by rw [z]; decide))
  refine ar_put ok_Mo_init rfl c5 (Nat.le_of_ble_eq_true rfl) rfl (fs' := [.ref 23, .int 0, .ref 24, .int 0, .int 0, .int 0, .ref 25, .int 0, .int 0, .ref 26, .int 1, .ref 27, .ref 28, .ref 29, .ref 30, .int 0, .int (-1), .ref 31, .ref 32, .ref 33, .ref 34, .ref 35, .ref 36, .ref 37, .ref 38, .int 0, .ref 39, .ref 40, .ref 41, .ref 42, .int 0, .int 0, .int 0, .ref 43, .ref 44, .ref 45, .ref 46, .ref 47, .ref 48, .ref 49, .ref 50, .ref 51, .ref 52, .ref 53, .ref 54, .long 0, .ref 55, .null, .int 0, .null, .null, .null, .long 0, .int 0, .int 0, .int 0, .int 0, .int 0, .int 0, .int 0, .int 0, .int 0]) rfl (pc' := 303) rfl (Nat.le_of_ble_eq_true rfl) (Nat.le_of_ble_eq_true rfl) (fun h7 e8 e9 e10 => ?_)
  have c11 := (e9 55 (by decide)).trans e2
  have fr12 : ∀ q, q ∉ ([55, 22] : List Nat) → h7[q]? = h[q]? := fun q hq => (e9 q (fun z => hq (by rw [z]; decide))).trans (fr6 q (am_sub (by decide) hq))
  refine am_steps ok_Mo_init 2 (x' := (307, [some (.ref 22), none], [.int 4096, .ref 22], h7, 33, 522456)) rfl (Nat.le_of_ble_eq_true rfl) (by show (522456 : Nat) ≤ 690408; omega) ?_
  refine ar_newa ok_Mo_init rfl rfl (N := 4096) (by decide +kernel) (by decide +kernel) (by decide) (ad := 56) (e10.trans e4) (by decide) (pc' := 309) rfl (k' := 34) rfl (n' := 526552) rfl (Nat.le_of_ble_eq_true rfl) (Nat.le_of_ble_eq_true rfl) (fun h13 e14 e15 e16 => ?_)
  have c17 := (e15 22 (by decide)).trans e8
  have c18 := (e15 55 (by decide)).trans c11
  have fr19 : ∀ q, q ∉ ([55, 22, 56] : List Nat) → h13[q]? = h[q]? := fun q hq => (e15 q (fun z => hq (by rw [z]; decide))).trans (fr12 q (am_sub (by decide) hq))
  refine ar_put ok_Mo_init rfl c17 (Nat.le_of_ble_eq_true rfl) rfl (fs' := [.ref 23, .int 0, .ref 24, .int 0, .int 0, .int 0, .ref 25, .int 0, .int 0, .ref 26, .int 1, .ref 27, .ref 28, .ref 29, .ref 30, .int 0, .int (-1), .ref 31, .ref 32, .ref 33, .ref 34, .ref 35, .ref 36, .ref 37, .ref 38, .int 0, .ref 39, .ref 40, .ref 41, .ref 42, .int 0, .int 0, .int 0, .ref 43, .ref 44, .ref 45, .ref 46, .ref 47, .ref 48, .ref 49, .ref 50, .ref 51, .ref 52, .ref 53, .ref 54, .long 0, .ref 55, .ref 56, .int 0, .null, .null, .null, .long 0, .int 0, .int 0, .int 0, .int 0, .int 0, .int 0, .int 0, .int 0, .int 0]) rfl (pc' := 312) rfl (Nat.le_of_ble_eq_true rfl) (Nat.le_of_ble_eq_true rfl) (fun h20 e21 e22 e23 => ?_)
  have c24 := (e22 55 (by decide)).trans c18
  have c25 := (e22 56 (by decide)).trans e14
  have fr26 : ∀ q, q ∉ ([55, 22, 56] : List Nat) → h20[q]? = h[q]? := fun q hq => (e22 q (fun z => hq (by rw [z]; decide))).trans (fr19 q (am_sub (by decide) hq))
  refine am_steps ok_Mo_init 2 (x' := (315, [some (.ref 22), none], [.int 16, .ref 22], h20, 34, 526552)) rfl (Nat.le_of_ble_eq_true rfl) (by show (526552 : Nat) ≤ 690408; omega) ?_
  refine ar_newa ok_Mo_init rfl rfl (N := 16) (by decide +kernel) (by decide +kernel) (by decide) (ad := 57) (e23.trans e16) (by decide) (pc' := 317) rfl (k' := 35) rfl (n' := 526568) rfl (Nat.le_of_ble_eq_true rfl) (Nat.le_of_ble_eq_true rfl) (fun h27 e28 e29 e30 => ?_)
  have c31 := (e29 22 (by decide)).trans e21
  have c32 := (e29 55 (by decide)).trans c24
  have c33 := (e29 56 (by decide)).trans c25
  have fr34 : ∀ q, q ∉ ([55, 22, 56, 57] : List Nat) → h27[q]? = h[q]? := fun q hq => (e29 q (fun z => hq (by rw [z]; decide))).trans (fr26 q (am_sub (by decide) hq))
  refine ar_put ok_Mo_init rfl c31 (Nat.le_of_ble_eq_true rfl) rfl (fs' := [.ref 23, .int 0, .ref 24, .int 0, .int 0, .int 0, .ref 25, .int 0, .int 0, .ref 26, .int 1, .ref 27, .ref 28, .ref 29, .ref 30, .int 0, .int (-1), .ref 31, .ref 32, .ref 33, .ref 34, .ref 35, .ref 36, .ref 37, .ref 38, .int 0, .ref 39, .ref 40, .ref 41, .ref 42, .int 0, .int 0, .int 0, .ref 43, .ref 44, .ref 45, .ref 46, .ref 47, .ref 48, .ref 49, .ref 50, .ref 51, .ref 52, .ref 53, .ref 54, .long 0, .ref 55, .ref 56, .int 0, .ref 57, .null, .null, .long 0, .int 0, .int 0, .int 0, .int 0, .int 0, .int 0, .int 0, .int 0, .int 0]) rfl (pc' := 320) rfl (Nat.le_of_ble_eq_true rfl) (Nat.le_of_ble_eq_true rfl) (fun h35 e36 e37 e38 => ?_)
  have c39 := (e37 55 (by decide)).trans c32
  have c40 := (e37 56 (by decide)).trans c33
  have c41 := (e37 57 (by decide)).trans e28
  have fr42 : ∀ q, q ∉ ([55, 22, 56, 57] : List Nat) → h35[q]? = h[q]? := fun q hq => (e37 q (fun z => hq (by rw [z]; decide))).trans (fr34 q (am_sub (by decide) hq))
  refine am_steps ok_Mo_init 1 (x' := (321, [some (.ref 22), none], [.ref 22], h35, 35, 526568)) rfl (Nat.le_of_ble_eq_true rfl) (by show (526568 : Nat) ≤ 690408; omega) ?_
  refine ar_ldc ok_Mo_init rfl (w := 81920) (by decide +kernel) (pc' := 323) rfl (Nat.le_of_ble_eq_true rfl) (Nat.le_of_ble_eq_true rfl) ?_
  refine ar_newa ok_Mo_init rfl rfl (N := 81920) (by decide +kernel) (by decide +kernel) (by decide) (ad := 58) (e38.trans e30) (by decide) (pc' := 325) rfl (k' := 36) rfl (n' := 608488) rfl (Nat.le_of_ble_eq_true rfl) (Nat.le_of_ble_eq_true rfl) (fun h43 e44 e45 e46 => ?_)
  have c47 := (e45 22 (by decide)).trans e36
  have c48 := (e45 55 (by decide)).trans c39
  have c49 := (e45 56 (by decide)).trans c40
  have c50 := (e45 57 (by decide)).trans c41
  have fr51 : ∀ q, q ∉ ([55, 22, 56, 57, 58] : List Nat) → h43[q]? = h[q]? := fun q hq => (e45 q (fun z => hq (by rw [z]; decide))).trans (fr42 q (am_sub (by decide) hq))
  refine ar_put ok_Mo_init rfl c47 (Nat.le_of_ble_eq_true rfl) rfl (fs' := [.ref 23, .int 0, .ref 24, .int 0, .int 0, .int 0, .ref 25, .int 0, .int 0, .ref 26, .int 1, .ref 27, .ref 28, .ref 29, .ref 30, .int 0, .int (-1), .ref 31, .ref 32, .ref 33, .ref 34, .ref 35, .ref 36, .ref 37, .ref 38, .int 0, .ref 39, .ref 40, .ref 41, .ref 42, .int 0, .int 0, .int 0, .ref 43, .ref 44, .ref 45, .ref 46, .ref 47, .ref 48, .ref 49, .ref 50, .ref 51, .ref 52, .ref 53, .ref 54, .long 0, .ref 55, .ref 56, .int 0, .ref 57, .ref 58, .null, .long 0, .int 0, .int 0, .int 0, .int 0, .int 0, .int 0, .int 0, .int 0, .int 0]) rfl (pc' := 328) rfl (Nat.le_of_ble_eq_true rfl) (Nat.le_of_ble_eq_true rfl) (fun h52 e53 e54 e55 => ?_)
  have c56 := (e54 55 (by decide)).trans c48
  have c57 := (e54 56 (by decide)).trans c49
  have c58 := (e54 57 (by decide)).trans c50
  have c59 := (e54 58 (by decide)).trans e44
  have fr60 : ∀ q, q ∉ ([55, 22, 56, 57, 58] : List Nat) → h52[q]? = h[q]? := fun q hq => (e54 q (fun z => hq (by rw [z]; decide))).trans (fr51 q (am_sub (by decide) hq))
  exact kk h52 e53 c56 c57 c58 c59 (fr60) (e55.trans e46)
set_option maxHeartbeats 4000000 in
set_option maxRecDepth 100000 in
theorem mi_9 (Q : Option Value → am_H → Prop) (h : am_H) (hl : h.length = 59) (c_22 : h[22]? = some (.inr (1, [.ref 23, .int 0, .ref 24, .int 0, .int 0, .int 0, .ref 25, .int 0, .int 0, .ref 26, .int 1, .ref 27, .ref 28, .ref 29, .ref 30, .int 0, .int (-1), .ref 31, .ref 32, .ref 33, .ref 34, .ref 35, .ref 36, .ref 37, .ref 38, .int 0, .ref 39, .ref 40, .ref 41, .ref 42, .int 0, .int 0, .int 0, .ref 43, .ref 44, .ref 45, .ref 46, .ref 47, .ref 48, .ref 49, .ref 50, .ref 51, .ref 52, .ref 53, .ref 54, .long 0, .ref 55, .ref 56, .int 0, .ref 57, .ref 58, .null, .long 0, .int 0, .int 0, .int 0, .int 0, .int 0, .int 0, .int 0, .int 0, .int 0]))) (c_26 : h[26]? = some (.inl (1, 256, .inr (.inl (fun _ => 0))))) (kk : ∀ h' : am_H, h'[22]? = some (.inr (1, [.ref 23, .int 0, .ref 24, .int 0, .int 0, .int 0, .ref 25, .int 0, .int 0, .ref 26, .int 1, .ref 27, .ref 28, .ref 29, .ref 30, .int 0, .int (-1), .ref 31, .ref 32, .ref 33, .ref 34, .ref 35, .ref 36, .ref 37, .ref 38, .int 0, .ref 39, .ref 40, .ref 41, .ref 42, .int 0, .int 0, .int 0, .ref 43, .ref 44, .ref 45, .ref 46, .ref 47, .ref 48, .ref 49, .ref 50, .ref 51, .ref 52, .ref 53, .ref 54, .long 0, .ref 55, .ref 56, .int 0, .ref 57, .ref 58, .ref 59, .long 0, .int 0, .int 0, .int 0, .int 0, .int 1, .int (-1), .int 0, .int 0, .int 0])) → h'[26]? = some (.inl (1, 256, .inr (.inl (vp_updL (fun _ => 0) 0 ((((((((((67 : Int32)).toInt64) * 256) + (((66 : Int32)).toInt64)) * 256) + (((78 : Int32)).toInt64)) * 256) + (((75 : Int32)).toInt64))))))) → h'[59]? = some (.inl (1, 81920, .inr (.inl (fun _ => 0)))) → (∀ q, q ∉ ([59, 22, 26] : List Nat) → h'[q]? = h[q]?) → h'.length = 60 → am_S am_Pr none 1 23 37 690408 12 (365, [some (.ref 22), some (.int 0)], [], h', 37, 690408) Q) : am_S am_Pr none 1 23 37 690408 12 (328, [some (.ref 22), none], [], h, 36, 608488) Q := by
  refine am_steps ok_Mo_init 1 (x' := (329, [some (.ref 22), none], [.ref 22], h, 36, 608488)) rfl (Nat.le_of_ble_eq_true rfl) (by show (608488 : Nat) ≤ 690408; omega) ?_
  refine ar_ldc ok_Mo_init rfl (w := 81920) (by decide +kernel) (pc' := 331) rfl (Nat.le_of_ble_eq_true rfl) (Nat.le_of_ble_eq_true rfl) ?_
  refine ar_newa ok_Mo_init rfl rfl (N := 81920) (by decide +kernel) (by decide +kernel) (by decide) (ad := 59) hl (by decide) (pc' := 333) rfl (k' := 37) rfl (n' := 690408) rfl (Nat.le_of_ble_eq_true rfl) (Nat.le_of_ble_eq_true rfl) (fun h1 e2 e3 e4 => ?_)
  have c5 := (e3 22 (by decide)).trans c_22
  have c6 := (e3 26 (by decide)).trans c_26
  have fr7 : ∀ q, q ∉ ([59] : List Nat) → h1[q]? = h[q]? := fun q hq => e3 q (fun z => hq (by rw [z]; decide))
  refine ar_put ok_Mo_init rfl c5 (Nat.le_of_ble_eq_true rfl) rfl (fs' := [.ref 23, .int 0, .ref 24, .int 0, .int 0, .int 0, .ref 25, .int 0, .int 0, .ref 26, .int 1, .ref 27, .ref 28, .ref 29, .ref 30, .int 0, .int (-1), .ref 31, .ref 32, .ref 33, .ref 34, .ref 35, .ref 36, .ref 37, .ref 38, .int 0, .ref 39, .ref 40, .ref 41, .ref 42, .int 0, .int 0, .int 0, .ref 43, .ref 44, .ref 45, .ref 46, .ref 47, .ref 48, .ref 49, .ref 50, .ref 51, .ref 52, .ref 53, .ref 54, .long 0, .ref 55, .ref 56, .int 0, .ref 57, .ref 58, .ref 59, .long 0, .int 0, .int 0, .int 0, .int 0, .int 0, .int 0, .int 0, .int 0, .int 0]) rfl (pc' := 336) rfl (Nat.le_of_ble_eq_true rfl) (Nat.le_of_ble_eq_true rfl) (fun h8 e9 e10 e11 => ?_)
  have c12 := (e10 26 (by decide)).trans c6
  have c13 := (e10 59 (by decide)).trans e2
  have fr14 : ∀ q, q ∉ ([59, 22] : List Nat) → h8[q]? = h[q]? := fun q hq => (e10 q (fun z => hq (by rw [z]; decide))).trans (fr7 q (am_sub (by decide) hq))
  refine am_steps ok_Mo_init 2 (x' := (338, [some (.ref 22), none], [.int 1, .ref 22], h8, 37, 690408)) rfl (Nat.le_of_ble_eq_true rfl) (by show (690408 : Nat) ≤ 690408; omega) ?_
  refine ar_put ok_Mo_init rfl e9 (Nat.le_of_ble_eq_true rfl) rfl (fs' := [.ref 23, .int 0, .ref 24, .int 0, .int 0, .int 0, .ref 25, .int 0, .int 0, .ref 26, .int 1, .ref 27, .ref 28, .ref 29, .ref 30, .int 0, .int (-1), .ref 31, .ref 32, .ref 33, .ref 34, .ref 35, .ref 36, .ref 37, .ref 38, .int 0, .ref 39, .ref 40, .ref 41, .ref 42, .int 0, .int 0, .int 0, .ref 43, .ref 44, .ref 45, .ref 46, .ref 47, .ref 48, .ref 49, .ref 50, .ref 51, .ref 52, .ref 53, .ref 54, .long 0, .ref 55, .ref 56, .int 0, .ref 57, .ref 58, .ref 59, .long 0, .int 0, .int 0, .int 0, .int 0, .int 1, .int 0, .int 0, .int 0, .int 0]) rfl (pc' := 341) rfl (Nat.le_of_ble_eq_true rfl) (Nat.le_of_ble_eq_true rfl) (fun h15 e16 e17 e18 => ?_)
  have c19 := (e17 26 (by decide)).trans c12
  have c20 := (e17 59 (by decide)).trans c13
  have fr21 : ∀ q, q ∉ ([59, 22] : List Nat) → h15[q]? = h[q]? := fun q hq => (e17 q (fun z => hq (by rw [z]; decide))).trans (fr14 q (am_sub (by decide) hq))
  refine am_steps ok_Mo_init 2 (x' := (343, [some (.ref 22), none], [.int (-1), .ref 22], h15, 37, 690408)) rfl (Nat.le_of_ble_eq_true rfl) (by show (690408 : Nat) ≤ 690408; omega) ?_
  refine ar_put ok_Mo_init rfl e16 (Nat.le_of_ble_eq_true rfl) rfl (fs' := [.ref 23, .int 0, .ref 24, .int 0, .int 0, .int 0, .ref 25, .int 0, .int 0, .ref 26, .int 1, .ref 27, .ref 28, .ref 29, .ref 30, .int 0, .int (-1), .ref 31, .ref 32, .ref 33, .ref 34, .ref 35, .ref 36, .ref 37, .ref 38, .int 0, .ref 39, .ref 40, .ref 41, .ref 42, .int 0, .int 0, .int 0, .ref 43, .ref 44, .ref 45, .ref 46, .ref 47, .ref 48, .ref 49, .ref 50, .ref 51, .ref 52, .ref 53, .ref 54, .long 0, .ref 55, .ref 56, .int 0, .ref 57, .ref 58, .ref 59, .long 0, .int 0, .int 0, .int 0, .int 0, .int 1, .int (-1), .int 0, .int 0, .int 0]) rfl (pc' := 346) rfl (Nat.le_of_ble_eq_true rfl) (Nat.le_of_ble_eq_true rfl) (fun h22 e23 e24 e25 => ?_)
  have c26 := (e24 26 (by decide)).trans c19
  have c27 := (e24 59 (by decide)).trans c20
  have fr28 : ∀ q, q ∉ ([59, 22] : List Nat) → h22[q]? = h[q]? := fun q hq => (e24 q (fun z => hq (by rw [z]; decide))).trans (fr21 q (am_sub (by decide) hq))
  refine am_steps ok_Mo_init 1 (x' := (347, [some (.ref 22), none], [.ref 22], h22, 37, 690408)) rfl (Nat.le_of_ble_eq_true rfl) (by show (690408 : Nat) ≤ 690408; omega) ?_
  refine ar_get ok_Mo_init rfl e23 (v := .ref 26) rfl (pc' := 350) rfl (Nat.le_of_ble_eq_true rfl) (Nat.le_of_ble_eq_true rfl) ?_
  refine am_steps ok_Mo_init 5 (x' := (359, [some (.ref 22), none], [.int 75, .int 78, .int 66, .int 67, .int 0, .ref 26], h22, 37, 690408)) rfl (Nat.le_of_ble_eq_true rfl) (by show (690408 : Nat) ≤ 690408; omega) ?_
  refine am_call ok_Mo_init hk_Mo_code rfl (args' := [.int 67, .int 66, .int 78, .int 75]) (rest := [.int 0, .ref 26]) rfl (m_code ((67 : Int32)) ((66 : Int32)) ((78 : Int32)) ((75 : Int32)) h22  ) (Nat.le_of_ble_eq_true rfl) (Nat.le_of_ble_eq_true rfl) (Nat.le_of_ble_eq_true rfl) (Nat.le_of_ble_eq_true rfl) (fun r29 h30 q31 => ?_)
  obtain ⟨rfl, f32, l33⟩ := q31
  show am_S _ _ _ _ _ _ _ (362, [some (.ref 22), none], [.long (((((((((67 : Int32)).toInt64) * 256) + (((66 : Int32)).toInt64)) * 256) + (((78 : Int32)).toInt64)) * 256) + (((75 : Int32)).toInt64)), .int 0, .ref 26], h30, 37, 690408) _
  have c34 := (f32 22 (by decide)).trans e23
  have c35 := (f32 26 (by decide)).trans c26
  have c36 := (f32 59 (by decide)).trans c27
  have fr37 : ∀ q, q ∉ ([59, 22] : List Nat) → h30[q]? = h[q]? := fun q hq => (f32 q (am_sub (by decide) hq)).trans (fr28 q (am_sub (by decide) hq))
  refine ar_last ok_Mo_init rfl c35 (jx := 0) rfl (pc' := 363) rfl (Nat.le_of_ble_eq_true rfl) (Nat.le_of_ble_eq_true rfl) (fun h39 e40 e41 e42 => ?_)
  have c43 := (e41 22 (by decide)).trans c34
  have c44 := (e41 59 (by decide)).trans c36
  have fr45 : ∀ q, q ∉ ([59, 22, 26] : List Nat) → h39[q]? = h[q]? := fun q hq => (e41 q (fun z => hq (by rw [z]; decide))).trans (fr37 q (am_sub (by decide) hq))
  refine am_steps ok_Mo_init 2 (x' := (365, [some (.ref 22), some (.int 0)], [], h39, 37, 690408)) rfl (Nat.le_of_ble_eq_true rfl) (by show (690408 : Nat) ≤ 690408; omega) ?_
  exact kk h39 c43 e40 c44 (fr45) (e42.trans (l33.trans (e25.trans (e18.trans (e11.trans e4)))))
