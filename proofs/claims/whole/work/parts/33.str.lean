/-! String constants: length and charAt, through the JDK's own code. -/
/-- the length of the t-th constant, as String.length has it -/
def am_sl (t : Nat) : Option Int32 := (am_strs[t]?).map fun q => Int32.ofNat q.2.2.2.length >>> ((0 : Int32) &&& 31)
/-- its i-th char -/
def am_sc (t : Nat) (i : Int32) : Option Int32 := (am_strs[t]?).bind fun q => (am_ix i q.2.2.2.length).map fun j => (((q.2.2.2.getD j 0) &&& 255).toUInt32 % 65536).toInt32
theorem am_narC (x : Int32) : narrow .char (.int ((x.toUInt32 % 65536).toInt32)) = .int ((x.toUInt32 % 65536).toInt32) := by
  rw [pk_char]
  exact (pk_charN (Nat.mod_lt _ (by decide))).1
set_option maxHeartbeats 4000000 in
set_option maxRecDepth 100000 in
theorem k_St_coder (t : Nat) (q : String × Nat × String × List Int32) (ht : am_strs[t]? = some q) (h : am_H) : am_Me am_Pr none 0 0 0 0 237 [.ref (am_M + (10 + t))] h (am_is (some (.int 0)) h) := by
  refine am_enter (d := hd_St_coder) rfl (by decide +kernel) (Nat.le_of_ble_eq_true rfl) ?_
  show am_S _ _ _ _ _ _ _ (0, [some (.ref (am_M + (10 + t)))], [], h, 0, 0) _
  refine ao_cmp (d0 := hd_St_coder) rfl (x := 38) (a := 507) (by decide +kernel) (by decide +kernel) (pc' := 3) rfl ?_
  refine am_steps ok_St_coder 2 (x' := (7, [some (.ref (am_M + (10 + t)))], [.ref (am_M + (10 + t))], h, 0, 0)) rfl (Nat.le_of_ble_eq_true rfl) (Nat.le_of_ble_eq_true rfl) ?_
  refine ao_getc (d0 := hd_St_coder) rfl (x := 15) (a := 1867) (by decide +kernel) (by decide +kernel) ht (pc' := 10) rfl ?_
  refine am_steps ok_St_coder 1 (x' := (14, [some (.ref (am_M + (10 + t)))], [.int 0], h, 0, 0)) rfl (Nat.le_of_ble_eq_true rfl) (Nat.le_of_ble_eq_true rfl) ?_
  exact ao_ret (d0 := hd_St_coder) rfl (ty := .byte) (by decide +kernel) rfl rfl (Nat.le_refl _) (Nat.le_refl _) ⟨rfl, rfl⟩
set_option maxHeartbeats 4000000 in
set_option maxRecDepth 100000 in
theorem k_St_isLatin1 (t : Nat) (q : String × Nat × String × List Int32) (ht : am_strs[t]? = some q) (h : am_H) : am_Me am_Pr none 0 0 0 0 238 [.ref (am_M + (10 + t))] h (am_is (some (.int 1)) h) := by
  refine am_enter (d := hd_St_isLatin1) rfl (by decide +kernel) (Nat.le_of_ble_eq_true rfl) ?_
  show am_S _ _ _ _ _ _ _ (0, [some (.ref (am_M + (10 + t)))], [], h, 0, 0) _
  refine ao_cmp (d0 := hd_St_isLatin1) rfl (x := 38) (a := 507) (by decide +kernel) (by decide +kernel) (pc' := 3) rfl ?_
  refine am_steps ok_St_isLatin1 2 (x' := (7, [some (.ref (am_M + (10 + t)))], [.ref (am_M + (10 + t))], h, 0, 0)) rfl (Nat.le_of_ble_eq_true rfl) (Nat.le_of_ble_eq_true rfl) ?_
  refine ao_getc (d0 := hd_St_isLatin1) rfl (x := 15) (a := 1867) (by decide +kernel) (by decide +kernel) ht (pc' := 10) rfl ?_
  refine am_steps ok_St_isLatin1 3 (x' := (18, [some (.ref (am_M + (10 + t)))], [.int 1], h, 0, 0)) rfl (Nat.le_of_ble_eq_true rfl) (Nat.le_of_ble_eq_true rfl) ?_
  exact ao_ret (d0 := hd_St_isLatin1) rfl (ty := .boolean) (by decide +kernel) rfl rfl (Nat.le_refl _) (Nat.le_refl _) ⟨rfl, rfl⟩
set_option maxHeartbeats 4000000 in
set_option maxRecDepth 100000 in
theorem c_St_length (t : Nat) (h : am_H) (q : Int32) (hd : am_sl t = some q) : am_Me am_Pr none 1 20 0 0 236 [.ref (am_M + (10 + t))] h (am_is (some (.int q)) h) := by
  obtain ⟨s, ht, hq⟩ := Option.map_eq_some_iff.mp hd
  subst hq
  refine am_enter (d := hd_St_length) rfl (by decide +kernel) (Nat.le_of_ble_eq_true rfl) ?_
  show am_S _ _ _ _ _ _ _ (0, [some (.ref (am_M + (10 + t)))], [], h, 0, 0) _
  refine am_steps ok_St_length 1 (x' := (1, [some (.ref (am_M + (10 + t)))], [.ref (am_M + (10 + t))], h, 0, 0)) rfl (Nat.le_of_ble_eq_true rfl) (Nat.le_of_ble_eq_true rfl) ?_
  refine ao_getv (d0 := hd_St_length) rfl (x := 9) (a := 1866) (by decide +kernel) (by decide +kernel) ht (pc' := 4) rfl ?_
  refine ao_slen (d0 := hd_St_length) rfl (by decide +kernel) ht (w := Int32.ofNat s.2.2.2.length) rfl (pc' := 5) rfl ?_
  refine am_steps ok_St_length 1 (x' := (6, [some (.ref (am_M + (10 + t)))], [.ref (am_M + (10 + t)), .int (Int32.ofNat s.2.2.2.length)], h, 0, 0)) rfl (Nat.le_of_ble_eq_true rfl) (Nat.le_of_ble_eq_true rfl) ?_
  refine ao_callS (d0 := hd_St_length) rfl (x := 335) (a := 503) (j' := 237) hk_St_coder rfl rfl ht (by decide +kernel) (by decide +kernel) (As := []) (rest := [.int (Int32.ofNat s.2.2.2.length)]) rfl rfl (Nat.le_of_ble_eq_true rfl) (k_St_coder t s ht h) (Nat.le_of_ble_eq_true rfl) (Nat.le_of_ble_eq_true rfl) (Nat.le_of_ble_eq_true rfl) (Nat.le_of_ble_eq_true rfl) (pc' := 9) rfl (fun r h' hz => ?_)
  obtain ⟨rfl, z⟩ := hz
  rw [z]
  refine am_steps ok_St_length 1 (x' := (10, [some (.ref (am_M + (10 + t)))], [.int (Int32.ofNat s.2.2.2.length >>> ((0 : Int32) &&& 31))], h, 0, 0)) rfl (Nat.le_of_ble_eq_true rfl) (Nat.le_of_ble_eq_true rfl) ?_
  exact am_ret ok_St_length rfl (Nat.le_of_ble_eq_true rfl) (Nat.le_of_ble_eq_true rfl) ⟨rfl, rfl⟩
set_option maxHeartbeats 4000000 in
set_option maxRecDepth 100000 in
theorem k_Pre_null (i n : Int32) (h1 : ¬ i < 0) (h2 : i < n) (h : am_H) : am_Me am_Pr none 0 0 0 0 242 [.int i, .int n, .null] h (am_is (some (.int i)) h) := by
  refine am_enter (d := hd_Preconditions_checkIndex) rfl (by decide +kernel) (Nat.le_of_ble_eq_true rfl) ?_
  show am_S _ _ _ _ _ _ _ (0, [some (.int i), some (.int n), some .null], [], h, 0, 0) _
  refine am_steps ok_Preconditions_checkIndex 2 (x' := (if i < 0 then 9 else 4, [some (.int i), some (.int n), some .null], [], h, 0, 0)) rfl (Nat.le_of_ble_eq_true rfl) (Nat.le_of_ble_eq_true rfl) ?_
  rw [if_neg h1]
  refine am_steps ok_Preconditions_checkIndex 3 (x' := (if i < n then 16 else 9, [some (.int i), some (.int n), some .null], [], h, 0, 0)) rfl (Nat.le_of_ble_eq_true rfl) (Nat.le_of_ble_eq_true rfl) ?_
  rw [if_pos h2]
  refine am_steps ok_Preconditions_checkIndex 1 (x' := (17, [some (.int i), some (.int n), some .null], [.int i], h, 0, 0)) rfl (Nat.le_of_ble_eq_true rfl) (Nat.le_of_ble_eq_true rfl) ?_
  exact am_ret ok_Preconditions_checkIndex rfl (Nat.le_of_ble_eq_true rfl) (Nat.le_of_ble_eq_true rfl) ⟨rfl, rfl⟩
set_option maxHeartbeats 4000000 in
set_option maxRecDepth 100000 in
theorem k_Pre_ref (i n : Int32) (v : Nat) (h1 : ¬ i < 0) (h2 : i < n) (h : am_H) : am_Me am_Pr none 0 0 0 0 242 [.int i, .int n, .ref v] h (am_is (some (.int i)) h) := by
  refine am_enter (d := hd_Preconditions_checkIndex) rfl (by decide +kernel) (Nat.le_of_ble_eq_true rfl) ?_
  show am_S _ _ _ _ _ _ _ (0, [some (.int i), some (.int n), some (.ref v)], [], h, 0, 0) _
  refine am_steps ok_Preconditions_checkIndex 2 (x' := (if i < 0 then 9 else 4, [some (.int i), some (.int n), some (.ref v)], [], h, 0, 0)) rfl (Nat.le_of_ble_eq_true rfl) (Nat.le_of_ble_eq_true rfl) ?_
  rw [if_neg h1]
  refine am_steps ok_Preconditions_checkIndex 3 (x' := (if i < n then 16 else 9, [some (.int i), some (.int n), some (.ref v)], [], h, 0, 0)) rfl (Nat.le_of_ble_eq_true rfl) (Nat.le_of_ble_eq_true rfl) ?_
  rw [if_pos h2]
  refine am_steps ok_Preconditions_checkIndex 1 (x' := (17, [some (.int i), some (.int n), some (.ref v)], [.int i], h, 0, 0)) rfl (Nat.le_of_ble_eq_true rfl) (Nat.le_of_ble_eq_true rfl) ?_
  exact am_ret ok_Preconditions_checkIndex rfl (Nat.le_of_ble_eq_true rfl) (Nat.le_of_ble_eq_true rfl) ⟨rfl, rfl⟩
set_option maxHeartbeats 4000000 in
set_option maxRecDepth 100000 in
theorem k_Obj_check (i n : Int32) (h1 : ¬ i < 0) (h2 : i < n) (h : am_H) : am_Me am_Pr none 1 22 0 0 243 [.int i, .int n] h (am_is (some (.int i)) h) := by
  refine am_enter (d := hd_Objects_checkIndex) rfl (by decide +kernel) (Nat.le_of_ble_eq_true rfl) ?_
  show am_S _ _ _ _ _ _ _ (0, [some (.int i), some (.int n)], [], h, 0, 0) _
  refine am_steps ok_Objects_checkIndex 3 (x' := (3, [some (.int i), some (.int n)], [.null, .int n, .int i], h, 0, 0)) rfl (Nat.le_of_ble_eq_true rfl) (Nat.le_of_ble_eq_true rfl) ?_
  refine am_call ok_Objects_checkIndex hk_Preconditions_checkIndex rfl (args' := [.int i, .int n, .null]) (rest := []) rfl (k_Pre_null i n h1 h2 h) (Nat.le_of_ble_eq_true rfl) (Nat.le_of_ble_eq_true rfl) (Nat.le_of_ble_eq_true rfl) (Nat.le_of_ble_eq_true rfl) (fun r h' hz => ?_)
  obtain ⟨rfl, z⟩ := hz
  rw [z]
  exact am_ret ok_Objects_checkIndex rfl (Nat.le_of_ble_eq_true rfl) (Nat.le_of_ble_eq_true rfl) ⟨rfl, rfl⟩
set_option maxHeartbeats 4000000 in
set_option maxRecDepth 100000 in
theorem k_St_check (i n : Int32) (h1 : ¬ i < 0) (h2 : i < n) (h : am_H) : am_Me am_Pr none 1 22 0 0 240 [.int i, .int n] h (am_is none h) := by
  refine am_enter (d := hd_St_checkIndex) rfl (by decide +kernel) (Nat.le_of_ble_eq_true rfl) ?_
  show am_S _ _ _ _ _ _ _ (0, [some (.int i), some (.int n)], [], h, 0, 0) _
  refine am_steps ok_St_checkIndex 2 (x' := (2, [some (.int i), some (.int n)], [.int n, .int i], h, 0, 0)) rfl (Nat.le_of_ble_eq_true rfl) (Nat.le_of_ble_eq_true rfl) ?_
  refine ao_sio (d0 := hd_St_checkIndex) rfl (x := 1053) (a := 523) (by decide +kernel) (by decide +kernel) (pc' := 5) rfl ?_ ?_
  · refine am_call ok_St_checkIndex hk_Preconditions_checkIndex rfl (args' := [.int i, .int n, .null]) (rest := []) rfl (k_Pre_null i n h1 h2 h) (Nat.le_of_ble_eq_true rfl) (Nat.le_of_ble_eq_true rfl) (Nat.le_of_ble_eq_true rfl) (Nat.le_of_ble_eq_true rfl) (fun r h' hz => ?_)
    obtain ⟨rfl, z⟩ := hz
    rw [z]
    refine am_steps ok_St_checkIndex 1 (x' := (9, [some (.int i), some (.int n)], [], h, 0, 0)) rfl (Nat.le_of_ble_eq_true rfl) (Nat.le_of_ble_eq_true rfl) ?_
    exact am_ret ok_St_checkIndex rfl (Nat.le_of_ble_eq_true rfl) (Nat.le_of_ble_eq_true rfl) ⟨rfl, rfl⟩
  · refine am_call ok_St_checkIndex hk_Preconditions_checkIndex rfl (args' := [.int i, .int n, .ref (am_M + 4)]) (rest := []) rfl (k_Pre_ref i n (am_M + 4) h1 h2 h) (Nat.le_of_ble_eq_true rfl) (Nat.le_of_ble_eq_true rfl) (Nat.le_of_ble_eq_true rfl) (Nat.le_of_ble_eq_true rfl) (fun r h' hz => ?_)
    obtain ⟨rfl, z⟩ := hz
    rw [z]
    refine am_steps ok_St_checkIndex 1 (x' := (9, [some (.int i), some (.int n)], [], h, 0, 0)) rfl (Nat.le_of_ble_eq_true rfl) (Nat.le_of_ble_eq_true rfl) ?_
    exact am_ret ok_St_checkIndex rfl (Nat.le_of_ble_eq_true rfl) (Nat.le_of_ble_eq_true rfl) ⟨rfl, rfl⟩
theorem am_ix_lt {i : Int32} {n j : Nat} (hn : n < 2 ^ 31) (h : am_ix i n = some j) : ¬ i < 0 ∧ i < Int32.ofNat n := by
  obtain ⟨h1, -⟩ := am_ix_eq h
  have h2 : ¬ i < 0 := fun z => h1 (Or.inl z)
  have h3 : i.toNatClampNeg < n := Nat.not_le.mp fun z => h1 (Or.inr z)
  refine ⟨h2, ?_⟩
  rw [Int32.lt_iff_toInt_lt]
  have h4 : (Int32.ofNat n).toInt = (n : Int) := nI_toInt hn
  rw [h4, am_nn h2]
  omega
set_option maxHeartbeats 4000000 in
set_option maxRecDepth 100000 in
theorem k_Latin_charAt (t : Nat) (q : String × Nat × String × List Int32) (ht : am_strs[t]? = some q) (hl : q.2.2.2.length < 2 ^ 31) (i : Int32) (j : Nat) (hj : am_ix i q.2.2.2.length = some j) (h : am_H) : am_Me am_Pr none 2 43 0 0 241 [.ref (am_M + (40 + t)), .int i] h (am_is (some (.int (((q.2.2.2.getD j 0) &&& 255).toUInt32 % 65536).toInt32)) h) := by
  obtain ⟨h1, h2⟩ := am_ix_lt hl hj
  refine am_enter (d := hd_StringLatin1_charAt) rfl (by decide +kernel) (Nat.le_of_ble_eq_true rfl) ?_
  show am_S _ _ _ _ _ _ _ (0, [some (.ref (am_M + (40 + t))), some (.int i)], [], h, 0, 0) _
  refine am_steps ok_StringLatin1_charAt 2 (x' := (2, [some (.ref (am_M + (40 + t))), some (.int i)], [.ref (am_M + (40 + t)), .int i], h, 0, 0)) rfl (Nat.le_of_ble_eq_true rfl) (Nat.le_of_ble_eq_true rfl) ?_
  refine ao_slen (d0 := hd_StringLatin1_charAt) rfl (by decide +kernel) ht (w := Int32.ofNat q.2.2.2.length) rfl (pc' := 3) rfl ?_
  refine am_call ok_StringLatin1_charAt hk_St_checkIndex rfl (args' := [.int i, .int (Int32.ofNat q.2.2.2.length)]) (rest := []) rfl (k_St_check i _ h1 h2 h) (Nat.le_of_ble_eq_true rfl) (Nat.le_of_ble_eq_true rfl) (Nat.le_of_ble_eq_true rfl) (Nat.le_of_ble_eq_true rfl) (fun r h' hz => ?_)
  obtain ⟨rfl, z⟩ := hz
  rw [z]
  refine am_steps ok_StringLatin1_charAt 2 (x' := (8, [some (.ref (am_M + (40 + t))), some (.int i)], [.int i, .ref (am_M + (40 + t))], h, 0, 0)) rfl (Nat.le_of_ble_eq_true rfl) (Nat.le_of_ble_eq_true rfl) ?_
  refine ao_bald (d0 := hd_StringLatin1_charAt) rfl (by decide +kernel) ht hj (v := q.2.2.2.getD j 0) rfl (pc' := 9) rfl ?_
  refine am_steps ok_StringLatin1_charAt 2 (x' := (13, [some (.ref (am_M + (40 + t))), some (.int i)], [.int (q.2.2.2.getD j 0 &&& 255)], h, 0, 0)) rfl (Nat.le_of_ble_eq_true rfl) (Nat.le_of_ble_eq_true rfl) ?_
  refine ao_i2c (d0 := hd_StringLatin1_charAt) rfl (by decide +kernel) rfl (pc' := 14) rfl ?_
  exact ao_ret (d0 := hd_StringLatin1_charAt) rfl (ty := .char) (by decide +kernel) rfl (am_narC _) (Nat.le_refl _) (Nat.le_refl _) ⟨rfl, rfl⟩
theorem am_strs_len : ∀ q ∈ am_strs, q.2.2.2.length < 2 ^ 31 := by decide +kernel
set_option maxHeartbeats 4000000 in
set_option maxRecDepth 100000 in
theorem c_St_charAt (t : Nat) (i : Int32) (h : am_H) (q : Int32) (hd : am_sc t i = some q) : am_Me am_Pr none 3 64 0 0 239 [.ref (am_M + (10 + t)), .int i] h (am_is (some (.int q)) h) := by
  obtain ⟨s, ht, hq⟩ := Option.bind_eq_some_iff.mp hd
  obtain ⟨j, hj, hq⟩ := Option.map_eq_some_iff.mp hq
  subst hq
  have hl := am_strs_len s (List.mem_of_getElem? ht)
  refine am_enter (d := hd_St_charAt) rfl (by decide +kernel) (Nat.le_of_ble_eq_true rfl) ?_
  show am_S _ _ _ _ _ _ _ (0, [some (.ref (am_M + (10 + t))), some (.int i)], [], h, 0, 0) _
  refine am_steps ok_St_charAt 1 (x' := (1, [some (.ref (am_M + (10 + t))), some (.int i)], [.ref (am_M + (10 + t))], h, 0, 0)) rfl (Nat.le_of_ble_eq_true rfl) (Nat.le_of_ble_eq_true rfl) ?_
  refine ao_callS (d0 := hd_St_charAt) rfl (x := 492) (a := 513) (j' := 238) hk_St_isLatin1 rfl rfl ht (by decide +kernel) (by decide +kernel) (As := []) (rest := []) rfl rfl (Nat.le_of_ble_eq_true rfl) (k_St_isLatin1 t s ht h) (Nat.le_of_ble_eq_true rfl) (Nat.le_of_ble_eq_true rfl) (Nat.le_of_ble_eq_true rfl) (Nat.le_of_ble_eq_true rfl) (pc' := 4) rfl (fun r h' hz => ?_)
  obtain ⟨rfl, z⟩ := hz
  rw [z]
  refine am_steps ok_St_charAt 2 (x' := (8, [some (.ref (am_M + (10 + t))), some (.int i)], [.ref (am_M + (10 + t))], h, 0, 0)) rfl (Nat.le_of_ble_eq_true rfl) (Nat.le_of_ble_eq_true rfl) ?_
  refine ao_getv (d0 := hd_St_charAt) rfl (x := 9) (a := 1866) (by decide +kernel) (by decide +kernel) ht (pc' := 11) rfl ?_
  refine am_steps ok_St_charAt 1 (x' := (12, [some (.ref (am_M + (10 + t))), some (.int i)], [.int i, .ref (am_M + (40 + t))], h, 0, 0)) rfl (Nat.le_of_ble_eq_true rfl) (Nat.le_of_ble_eq_true rfl) ?_
  refine am_call ok_St_charAt hk_StringLatin1_charAt rfl (args' := [.ref (am_M + (40 + t)), .int i]) (rest := []) rfl (k_Latin_charAt t s ht hl i j hj h) (Nat.le_of_ble_eq_true rfl) (Nat.le_of_ble_eq_true rfl) (Nat.le_of_ble_eq_true rfl) (Nat.le_of_ble_eq_true rfl) (fun r h' hz => ?_)
  obtain ⟨rfl, z⟩ := hz
  rw [z]
  show am_S _ _ _ _ _ _ _ (15, [some (.ref (am_M + (10 + t))), some (.int i)], [.int ((((s.2.2.2.getD j 0) &&& 255).toUInt32 % 65536).toInt32)], h, 0, 0) _
  exact ao_ret (d0 := hd_St_charAt) rfl (ty := .char) (by decide +kernel) rfl (am_narC _) (Nat.le_refl _) (Nat.le_refl _) ⟨rfl, rfl⟩
