/-! The reference writes into its answer. -/
def tb (c : Int32) : Int32 := am_bn 2 (Int8.toInt32 (Int32.toInt8 c))
theorem tb_nI {x : Nat} (h : x < 128) : tb (nI x) = nI x := by
  have : ∀ y : Fin 128, tb (nI y.val) = nI y.val := by decide +kernel
  exact this ⟨x, h⟩
/-- the answer's bytes -/
def AN (s : mS) (bs : List Int32) : Prop := s.1 7 = nI bs.length ∧ ∀ (j : Nat) (b : Int32), bs[j]? = some b → s.2.2.1 25 j = b
theorem AN.x {ki kl ka kb : List Nat} {s s' : mS} {bs : List Int32} (hM : AN s bs) (h : mX ki kl ka kb s s') (h1 : 7 ∉ ki) (h2 : 25 ∉ ka) : AN s' bs := ⟨(h.1 _ h1).trans hM.1, fun j k q => (h.eA _ h2 j).trans (hM.2 j k q)⟩
theorem d_put {s : mS} {bs : List Int32} (hA : AN s bs) (hl : bs.length < 32768) (c : Int32) : d_Mo_put c s = some (mI (mA s 25 bs.length (tb c)) 7 (nI (bs.length + 1))) ∧ AN (mI (mA s 25 bs.length (tb c)) 7 (nI (bs.length + 1))) (bs ++ [tb c]) ∧ mX [7] [] [25] [] s (mI (mA s 25 bs.length (tb c)) 7 (nI (bs.length + 1))) := by
  refine ⟨?_, ⟨by rw [mI_get, if_pos rfl, List.length_append]; rfl, fun j b hb => ?_⟩, (mX.rf.A (by decide)).I (by decide)⟩
  · unfold d_Mo_put
    rw [hA.1, if_pos (fun q => by have := nI_inj (b := 32768) (by omega) (by omega) q; omega), ixI hl (by omega), Option.bind_some, nI_add1]; rfl
  · show (mA s 25 bs.length (tb c)).2.2.1 25 j = b
    rw [mA_get, if_pos rfl]
    by_cases hj : j = bs.length
    · rw [if_pos hj]
      rw [hj, List.getElem?_append_right (Nat.le_refl _), Nat.sub_self] at hb
      cases hb; rfl
    · rw [if_neg hj]
      have : j < (bs ++ [tb c]).length := (List.getElem?_eq_some_iff.mp hb).1
      rw [List.length_append, List.length_singleton] at this
      rw [List.getElem?_append_left (by omega)] at hb
      exact hA.2 j b hb
theorem d_put' {s : mS} {bs : List Int32} (hA : AN s bs) (hl : bs.length < 32768) {x : Nat} (hx : x < 128) : ∃ s', d_Mo_put (nI x) s = some s' ∧ AN s' (bs ++ [nI x]) ∧ mX [7] [] [25] [] s s' := by
  obtain ⟨h1, h2, h3⟩ := d_put hA hl (nI x)
  rw [tb_nI hx] at h1 h2 h3
  exact ⟨_, h1, h2, h3⟩
theorem lI_shr {V : Int} (h0 : 0 ≤ V) (h1 : V < 9223372036854775808) (c : Nat) (b : Int64) (hb : (b.toBitVec.smod 64).toNat = c) : lI V >>> b = lI (V / 2 ^ c) := by
  apply Int64.toInt.inj
  have hq : V / 2 ^ c ≤ V := Int.ediv_le_self _ h0
  have hq0 : 0 ≤ V / 2 ^ c := Int.ediv_nonneg h0 (Int.le_of_lt (Int.pow_pos (by decide)))
  rw [lI_toInt (z := V / 2 ^ c) (by omega)]
  show (lI V >>> b).toBitVec.toInt = _
  rw [Int64.toBitVec_shiftRight]
  show ((lI V).toBitVec.sshiftRight ((b.toBitVec.smod 64).toNat)).toInt = _
  rw [hb, BitVec.toInt_sshiftRight, Int.shiftRight_eq_div_pow]
  show (lI V).toInt / _ = _
  rw [lI_toInt (by omega)]
  norm_cast
theorem i8_mod (m : Int) (c : Int) : Int8.ofInt (m * 256 + c) = Int8.ofInt c := by
  rw [Int8.ofInt_add, Int8.ofInt_mul, show Int8.ofInt 256 = 0 from rfl, Int8.mul_zero, Int8.zero_add]
theorem tb_and (W : Int) (m : Int) (c : Nat) (hc : c < 128) (h : W = m * 256 + c) : tb (Int64.toInt32 (lI W &&& Int64.ofNat 255)) = nI c := by
  have e : Int32.toInt8 (Int64.toInt32 (lI W &&& Int64.ofNat 255)) = Int32.toInt8 (nI c) := by
    unfold lI
    rw [Int64.toInt32_and, Int64.toInt32_ofInt, Int32.toInt8_and, Int32.toInt8_ofInt, show Int32.toInt8 (Int64.toInt32 (Int64.ofNat 255)) = -1 by decide, Int8.and_neg_one, h, i8_mod]
    show Int8.ofInt (c : Int) = Int32.toInt8 (Int32.ofNat c)
    rw [Int32.toInt8_ofNat', Int8.ofInt_eq_ofNat]
  have := tb_nI hc
  unfold tb at *
  rw [e]; exact this
theorem b256_div (a : List Nat) : ∀ (k : Nat) (t : List Nat), t.length = k → is36 t → b256 (a ++ t) / 256 ^ k = b256 a := by
  intro k
  induction k with
  | zero => intro t ht _; rw [List.length_eq_zero_iff.mp ht, List.append_nil]; simp
  | succ k ih =>
    intro t ht hs
    have hne : t ≠ [] := fun q => by rw [q] at ht; cases ht
    rw [← List.dropLast_concat_getLast hne] at hs ht ⊢
    obtain ⟨g1, g2⟩ := is36_app hs
    rw [List.length_append, List.length_singleton] at ht
    have l1 := chr36_lt g2
    rw [← List.append_assoc, b256_app, Nat.pow_succ, Nat.mul_comm (256 ^ k) 256, ← Nat.div_div_eq_div_mul]
    rw [show (b256 (a ++ t.dropLast) * 256 + chr36 (t.getLast hne)) / 256 = b256 (a ++ t.dropLast) by omega]
    exact ih t.dropLast (by omega) g1
def chs (d : List Nat) : List Int32 := d.map fun x => nI (chr36 x)
theorem chs_len (d : List Nat) : (chs d).length = d.length := List.length_map ..
theorem d_putName_loop {d : List Nat} (hd : is36 d) (hV : b256 d < 9223372036854775808) : ∀ (k fu : Nat) (p t : List Nat) (s : mS) (bs : List Int32), d = p ++ t → t.length = k + 1 → k < 8 → k + 1 < fu → AN s bs → bs.length + k + 1 < 32768 → ∃ s', l_Mo_putName_8 fu (lI (b256 d)) (nI (8 * k)) s = some s' ∧ AN s' (bs ++ chs t) ∧ mX [7] [] [25] [] s s' := by
  intro k
  induction k with
  | zero =>
    intro fu p t s bs he ht hk hf hA hl
    obtain ⟨fu, rfl⟩ : ∃ m, fu = m + 1 := ⟨fu - 1, by omega⟩
    obtain ⟨x, rfl⟩ : ∃ x, t = [x] := List.length_eq_one_iff.mp ht
    have hx : x < 36 := hd x (by rw [he]; simp)
    have hc := chr36_lt hx
    obtain ⟨g1, g2, g3⟩ := d_put hA (by omega) (Int64.toInt32 ((lI (b256 d) >>> (Int32.toInt64 (nI (8 * 0)) &&& 63)) &&& (Int64.ofNat 255)))
    have e : tb (Int64.toInt32 ((lI (b256 d) >>> (Int32.toInt64 (nI (8 * 0)) &&& 63)) &&& (Int64.ofNat 255))) = nI (chr36 x) := by
      rw [lI_shr (by omega) (by omega) 0 _ (by decide)]
      refine tb_and _ (b256 p) _ (by omega) ?_
      rw [he, b256_app]; simp
    rw [e] at g1 g2 g3
    unfold l_Mo_putName_8
    rw [if_neg (by decide), g1, Option.bind_some]
    obtain ⟨fu, rfl⟩ : ∃ m, fu = m + 1 := ⟨fu - 1, by omega⟩
    unfold l_Mo_putName_8
    rw [if_pos (by decide)]
    exact ⟨_, rfl, g2, g3⟩
  | succ k ih =>
    intro fu p t s bs he ht hk hf hA hl
    obtain ⟨fu, rfl⟩ : ∃ m, fu = m + 1 := ⟨fu - 1, by omega⟩
    obtain ⟨x, t, rfl⟩ : ∃ x t', t = x :: t' := by
      cases t with
      | nil => cases ht
      | cons x t => exact ⟨x, t, rfl⟩
    have hx : x < 36 := hd x (by rw [he]; simp)
    have hc := chr36_lt hx
    obtain ⟨g1, g2, g3⟩ := d_put hA (by omega) (Int64.toInt32 ((lI (b256 d) >>> (Int32.toInt64 (nI (8 * (k + 1))) &&& 63)) &&& (Int64.ofNat 255)))
    have e : tb (Int64.toInt32 ((lI (b256 d) >>> (Int32.toInt64 (nI (8 * (k + 1))) &&& 63)) &&& (Int64.ofNat 255))) = nI (chr36 x) := by
      have hb : ((Int32.toInt64 (nI (8 * (k + 1))) &&& 63).toBitVec.smod 64).toNat = 8 * (k + 1) := by
        have : ∀ y : Fin 8, ((Int32.toInt64 (nI (8 * y.val)) &&& 63).toBitVec.smod 64).toNat = 8 * y.val := by decide +kernel
        exact this ⟨k + 1, by omega⟩
      rw [lI_shr (by omega) (by omega) (8 * (k + 1)) _ hb]
      refine tb_and _ (b256 p) _ (by omega) ?_
      have h1 := b256_div (p ++ [x]) (k + 1) t (by simp at ht; omega) (fun y hy => hd y (by rw [he]; simp [hy]))
      rw [List.append_assoc, List.singleton_append, ← he, b256_app] at h1
      rw [show (2 : Int) ^ (8 * (k + 1)) = ((256 ^ (k + 1) : Nat) : Int) by rw [Int.pow_mul, Int.natCast_pow]; rfl, ← Int.natCast_ediv, h1]
      omega
    rw [e] at g1 g2 g3
    unfold l_Mo_putName_8
    rw [if_neg (nI_neg1 (by omega)), g1, Option.bind_some, show nI (8 * (k + 1)) + (-8) = nI (8 * k) by
      rw [← Int32.sub_eq_add_neg, show (8 : Int32) = nI 8 from rfl, nI_sub' (by omega)]
      exact congrArg nI (by omega)]
    obtain ⟨s', r1, r2, r3⟩ := ih fu (p ++ [x]) t _ _ (by rw [he]; simp) (by simp at ht; omega) (by omega) (by omega) g2 (by simp; omega)
    refine ⟨s', r1, ?_, g3.tr r3⟩
    rw [List.append_assoc] at r2
    exact r2
theorem d_putName {d : List Nat} {n : Nat} (hd : is36 d) (hn : d.length = n + 1) (h8 : n < 8) {s : mS} {bs : List Int32} (hA : AN s bs) (hl : bs.length + n + 1 < 32768) : ∃ s', d_Mo_putName (lI (b256 d)) (nI (n + 1)) s = some s' ∧ AN s' (bs ++ chs d) ∧ mX [7] [] [25] [] s s' := by
  have hV : b256 d < 9223372036854775808 := by
    have h1 := b256_lt n d hn hd
    have h2 : 256 ^ n ≤ 256 ^ 7 := Nat.pow_le_pow_right (by decide) (by omega)
    have h3 : (256 : Nat) ^ 7 = 72057594037927936 := by decide
    omega
  obtain ⟨s', r1, r2, r3⟩ := d_putName_loop hd hV n 100000 [] d s bs rfl hn h8 (by omega) hA hl
  unfold d_Mo_putName
  rw [show (8 : Int32) * (nI (n + 1) - 1) = nI (8 * n) by
    rw [show (1 : Int32) = nI 1 from rfl, nI_sub' (by omega), show (8 : Int32) = nI 8 from rfl, nI_mul]; rfl, r1]
  exact ⟨s', rfl, r2, r3⟩
