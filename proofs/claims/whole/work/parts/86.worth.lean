/-! What is pledged is worth: both sides. -/
theorem wth_split (n f : Nat) : n * f / 100 = n / 100 * f + n % 100 * (f / 100) + n % 100 * (f % 100) / 100 := by
  have h1 : n * f = 100 * (n / 100 * f) + n % 100 * f := by
    conv => lhs; rw [← Nat.div_add_mod n 100, Nat.add_mul, Nat.mul_assoc]
  have h2 : n % 100 * f = 100 * (n % 100 * (f / 100)) + n % 100 * (f % 100) := by
    conv => lhs; rw [← Nat.div_add_mod f 100, Nat.mul_add, Nat.mul_left_comm]
  rw [h1, h2]
  generalize n / 100 * f = X
  generalize n % 100 * (f / 100) = Y
  generalize n % 100 * (f % 100) = W
  omega
theorem wth_split2 (n f : Nat) : n * f / 100 = n * (f / 100) + n / 100 * (f % 100) + n % 100 * (f % 100) / 100 := by
  have h1 : n * f = 100 * (n * (f / 100)) + n * (f % 100) := by
    conv => lhs; rw [← Nat.div_add_mod f 100, Nat.mul_add, Nat.mul_left_comm]
  have h2 : n * (f % 100) = 100 * (n / 100 * (f % 100)) + n % 100 * (f % 100) := by
    conv => lhs; rw [← Nat.div_add_mod n 100, Nat.add_mul, Nat.mul_assoc]
  rw [h1, h2]
  generalize n * (f / 100) = X
  generalize n / 100 * (f % 100) = Y
  generalize n % 100 * (f % 100) = W
  omega
theorem wth_0f (n : Nat) (prc cut : Nat) (h : prc * (100 - cut) = 0) : wth n prc cut = 0 := by
  unfold wth; rw [h]; simp
theorem wth_00 (prc cut : Nat) : wth 0 prc cut = 0 := by
  unfold wth; simp
theorem i64_100 : Int64.ofNat 100 = lI 100 := rfl
theorem i64_most : Int64.ofNat 4000000000000000000 = lI 4000000000000000000 := rfl
theorem i64_most1 : Int64.ofNat 4000000000000000001 = lI 4000000000000000001 := rfl
set_option maxRecDepth 8000 in
theorem d_worth (n prc cut : Nat) (s : mS) (hn : n ≤ 4000000000000000000) (hp : prc < 1000000000000000) (hc : cut < 100) : d_Mo_worth (lI n) (lI prc) (nI cut) s = some (lI (wth n prc cut)) := by
  unfold d_Mo_worth
  have e1 : Int32.toInt64 (100 - nI cut) = lI ((100 - cut : Nat) : Int) := by
    rw [show (100 : Int32) = nI 100 from rfl, nI_sub' (by omega), nI_toL (by omega)]
  rw [e1, lI_mul, ← Int.natCast_mul]
  have hf : prc * (100 - cut) ≤ 100000000000000000 := by
    have : prc * (100 - cut) ≤ 1000000000000000 * 100 := Nat.mul_le_mul (by omega) (by omega)
    omega
  generalize hF : prc * (100 - cut) = f at hf
  have hw : wth n prc cut = min (n / 100 * f + n % 100 * (f / 100) + n % 100 * (f % 100) / 100) 4000000000000000001 := by
    unfold wth; rw [hF, wth_split, show mostN + 1 = 4000000000000000001 from rfl]
  have hy : n % 100 * (f / 100) ≤ 99 * (f / 100) := Nat.mul_le_mul (by omega) (Nat.le_refl _)
  have hv : n % 100 * (f % 100) ≤ 99 * 99 := Nat.mul_le_mul (by omega) (by omega)
  have hM : ((4000000000000000001 : Nat) : Int) = 4000000000000000001 := by omega
  rw [i64_100, i64_most, i64_most1, lI_0]
  rw [lI_div (a := (n : Int)) (b := 100) (by omega) (by omega) (by omega) (by omega), lI_div (a := (f : Int)) (b := 100) (by omega) (by omega) (by omega) (by omega)]
  rw [lI_mul ((n : Int) / 100) 100, lI_sub, lI_mul ((f : Int) / 100) 100, lI_sub]
  rw [show (n : Int) - (n : Int) / 100 * 100 = ((n % 100 : Nat) : Int) by omega, show (f : Int) - (f : Int) / 100 * 100 = ((f % 100 : Nat) : Int) by omega, show (n : Int) / 100 = ((n / 100 : Nat) : Int) by omega, show (f : Int) / 100 = ((f / 100 : Nat) : Int) by omega]
  simp only [lI_mul, ← Int.natCast_mul]
  rw [lI_div (a := ((n % 100 * (f % 100) : Nat) : Int)) (b := 100) (by omega) (by omega) (by omega) (by omega)]
  simp only [lI_add]
  rw [show ((n / 100 * f : Nat) : Int) + ((n % 100 * (f / 100) : Nat) : Int) + ((n % 100 * (f % 100) : Nat) : Int) / 100 = ((n / 100 * f + n % 100 * (f / 100) + n % 100 * (f % 100) / 100 : Nat) : Int) by omega]
  rw [hw]
  by_cases h0 : n = 0
  · rw [if_pos ((cmp_eq0 (by omega) (by omega)).mpr (by omega)), h0]; simp
  rw [if_neg (fun q => h0 (by have := (cmp_eq0 (by omega) (by omega)).mp q; omega))]
  by_cases hf0 : f = 0
  · rw [if_neg (fun q => q ((cmp_eq0 (by omega) (by omega)).mpr (by omega))), hf0]; simp
  rw [if_pos (fun q => hf0 (by have := (cmp_eq0 (by omega) (by omega)).mp q; omega))]
  by_cases ha : n / 100 = 0
  · rw [if_pos ((cmp_le0 (by omega) (by omega)).mpr (by omega)), ha, Nat.zero_mul]
    rw [if_pos ((cmp_le0 (by omega) (by omega)).mpr (by omega)), Nat.min_eq_left (by omega)]
  rw [if_neg (fun q => ha (by have := (cmp_le0 (by omega) (by omega)).mp q; omega)), if_neg (fun q => ha (by have := (lI_inj (by omega) (by omega)).mp q; omega))]
  rw [lI_div (a := (4000000000000000000 : Int)) (b := ((n / 100 : Nat) : Int)) (by omega) (by omega) (by omega) (by omega)]
  rw [show (4000000000000000000 : Int) / ((n / 100 : Nat) : Int) = ((4000000000000000000 / (n / 100) : Nat) : Int) from rfl]
  have hd : 4000000000000000000 / (n / 100) ≤ 4000000000000000000 := Nat.div_le_self _ _
  by_cases hl : f ≤ 4000000000000000000 / (n / 100)
  · have hx : n / 100 * f ≤ 4000000000000000000 := by
      have := (Nat.le_div_iff_mul_le (by omega)).mp hl
      rw [Nat.mul_comm]; exact this
    rw [if_pos ((cmp_le0 (by omega) (by omega)).mpr (by omega))]
    generalize n / 100 * f = X at hx
    by_cases ht : X + n % 100 * (f / 100) + n % 100 * (f % 100) / 100 ≤ 4000000000000000000
    · rw [if_pos ((cmp_le0 (by omega) (by omega)).mpr (by omega)), Nat.min_eq_left (by omega)]
    · rw [if_neg (fun q => ht (by have := (cmp_le0 (by omega) (by omega)).mp q; omega)), Nat.min_eq_right (by omega), hM]
  · have hx : 4000000000000000000 < n / 100 * f := by
      have := (Nat.div_lt_iff_lt_mul (show 0 < n / 100 by omega)).mp (Nat.lt_of_not_le hl)
      rw [Nat.mul_comm]; exact this
    generalize 4000000000000000000 / (n / 100) = K at hd hl
    rw [if_neg (fun q => hl (by have := (cmp_le0 (by omega) (by omega)).mp q; omega)), Nat.min_eq_right (by omega), hM]

set_option maxRecDepth 8000 in
theorem h_worth (n prc cut : Nat) (hn : n ≤ 4000000000000000000) (hp : prc < 1000000000000000) (hc : cut < 100) : h_As_worth (lI n) (lI prc) (nI cut) = some (lI (wth n prc cut)) := by
  unfold h_As_worth
  have e1 : Int32.toInt64 (100 - nI cut) = lI ((100 - cut : Nat) : Int) := by
    rw [show (100 : Int32) = nI 100 from rfl, nI_sub' (by omega), nI_toL (by omega)]
  rw [e1, lI_mul, ← Int.natCast_mul]
  have hf : prc * (100 - cut) ≤ 100000000000000000 := by
    have : prc * (100 - cut) ≤ 1000000000000000 * 100 := Nat.mul_le_mul (by omega) (by omega)
    omega
  generalize hF : prc * (100 - cut) = f at hf
  have hw : wth n prc cut = min (n * (f / 100) + n / 100 * (f % 100) + n % 100 * (f % 100) / 100) 4000000000000000001 := by
    unfold wth
    rw [hF, wth_split2, show mostN + 1 = 4000000000000000001 from rfl]
  have hy : n / 100 * (f % 100) ≤ n / 100 * 99 := Nat.mul_le_mul (Nat.le_refl _) (by omega)
  have hv : n % 100 * (f % 100) ≤ 99 * 99 := Nat.mul_le_mul (by omega) (by omega)
  have hM : ((4000000000000000001 : Nat) : Int) = 4000000000000000001 := by omega
  rw [i64_100, i64_most, i64_most1, lI_0]
  rw [lI_div (a := (n : Int)) (b := 100) (by omega) (by omega) (by omega) (by omega), lI_div (a := (f : Int)) (b := 100) (by omega) (by omega) (by omega) (by omega)]
  rw [lI_mul ((n : Int) / 100) 100, lI_sub, lI_mul ((f : Int) / 100) 100, lI_sub]
  rw [show (n : Int) - (n : Int) / 100 * 100 = ((n % 100 : Nat) : Int) by omega, show (f : Int) - (f : Int) / 100 * 100 = ((f % 100 : Nat) : Int) by omega, show (n : Int) / 100 = ((n / 100 : Nat) : Int) by omega, show (f : Int) / 100 = ((f / 100 : Nat) : Int) by omega]
  simp only [lI_mul, ← Int.natCast_mul]
  rw [lI_div (a := ((n % 100 * (f % 100) : Nat) : Int)) (b := 100) (by omega) (by omega) (by omega) (by omega)]
  simp only [lI_add]
  rw [show ((n * (f / 100) : Nat) : Int) + ((n / 100 * (f % 100) : Nat) : Int) + ((n % 100 * (f % 100) : Nat) : Int) / 100 = ((n * (f / 100) + n / 100 * (f % 100) + n % 100 * (f % 100) / 100 : Nat) : Int) by omega]
  rw [hw]
  by_cases ha : f / 100 = 0
  · rw [if_pos ((cmp_le0 (by omega) (by omega)).mpr (by omega)), ha, Nat.mul_zero]
    rw [if_pos ((cmp_le0 (by omega) (by omega)).mpr (by omega)), Nat.min_eq_left (by omega)]
  rw [if_neg (fun q => ha (by have := (cmp_le0 (by omega) (by omega)).mp q; omega)), if_neg (fun q => ha (by have := (lI_inj (by omega) (by omega)).mp q; omega))]
  rw [lI_div (a := (4000000000000000000 : Int)) (b := ((f / 100 : Nat) : Int)) (by omega) (by omega) (by omega) (by omega)]
  rw [show (4000000000000000000 : Int) / ((f / 100 : Nat) : Int) = ((4000000000000000000 / (f / 100) : Nat) : Int) from rfl]
  have hd : 4000000000000000000 / (f / 100) ≤ 4000000000000000000 := Nat.div_le_self _ _
  by_cases hl : n ≤ 4000000000000000000 / (f / 100)
  · have hx : n * (f / 100) ≤ 4000000000000000000 := (Nat.le_div_iff_mul_le (by omega)).mp hl
    rw [if_pos ((cmp_le0 (by omega) (by omega)).mpr (by omega))]
    generalize n * (f / 100) = X at hx
    by_cases ht : X + n / 100 * (f % 100) + n % 100 * (f % 100) / 100 ≤ 4000000000000000000
    · rw [if_pos ((cmp_le0 (by omega) (by omega)).mpr (by omega)), Nat.min_eq_left (by omega)]
    · rw [if_neg (fun q => ht (by have := (cmp_le0 (by omega) (by omega)).mp q; omega)), Nat.min_eq_right (by omega), hM]
  · have hx : 4000000000000000000 < n * (f / 100) := (Nat.div_lt_iff_lt_mul (show 0 < f / 100 by omega)).mp (Nat.lt_of_not_le hl)
    generalize 4000000000000000000 / (f / 100) = K at hd hl
    rw [if_neg (fun q => hl (by have := (cmp_le0 (by omega) (by omega)).mp q; omega)), Nat.min_eq_right (by omega), hM]
