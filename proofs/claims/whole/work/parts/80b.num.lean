/-! Numbers: nI (Nat to Int32), lI (Int to Int64); comparisons under bounds. -/
def lI (z : Int) : Int64 := Int64.ofInt z
/-- fits a long -/
abbrev inL (z : Int) : Prop := -9223372036854775808 ≤ z ∧ z < 9223372036854775808
theorem lI_toInt {z : Int} (h : inL z) : (lI z).toInt = z := Int64.toInt_ofInt_of_le (by omega) (by omega)
theorem lI_inj {a b : Int} (ha : inL a) (hb : inL b) : lI a = lI b ↔ a = b := by
  constructor
  · intro h
    have := congrArg Int64.toInt h
    rwa [lI_toInt ha, lI_toInt hb] at this
  · intro h; rw [h]
theorem lI_lt {a b : Int} (ha : inL a) (hb : inL b) : lI a < lI b ↔ a < b := by
  rw [Int64.lt_iff_toInt_lt, lI_toInt ha, lI_toInt hb]
theorem lI_le {a b : Int} (ha : inL a) (hb : inL b) : lI a ≤ lI b ↔ a ≤ b := by
  rw [Int64.le_iff_toInt_le, lI_toInt ha, lI_toInt hb]
theorem lI_add (a b : Int) : lI a + lI b = lI (a + b) := (Int64.ofInt_add a b).symm
theorem lI_sub (a b : Int) : lI a - lI b = lI (a - b) := (Int64.ofInt_sub a b).symm
theorem lI_mul (a b : Int) : lI a * lI b = lI (a * b) := (Int64.ofInt_mul a b).symm
theorem lI_neg (a : Int) : - lI a = lI (- a) := (Int64.ofInt_neg a).symm
theorem lI_0 : (0 : Int64) = lI 0 := rfl
theorem lI_ofNat (n : Nat) : Int64.ofNat n = lI (n : Int) := by
  unfold lI
  exact (Int64.ofInt_eq_ofNat).symm
theorem lI_div {a b : Int} (ha : inL a) (hb : inL b) (h0 : 0 ≤ a) (h1 : 0 < b) : lI a / lI b = lI (a / b) := by
  apply Int64.toInt.inj
  have hq : a / b ≤ a := Int.ediv_le_self b h0
  have hq0 : 0 ≤ a / b := Int.ediv_nonneg h0 (by omega)
  rw [lI_toInt (z := a / b) (by omega), Int64.toInt_div_of_ne_right, lI_toInt ha, lI_toInt hb, Int.tdiv_eq_ediv_of_nonneg h0]
  intro hc
  have := congrArg Int64.toInt hc
  rw [lI_toInt hb] at this
  have h2 : (-1 : Int64).toInt = -1 := by decide
  omega
theorem nI_toL {a : Nat} (h : a < 2147483648) : Int32.toInt64 (nI a) = lI (a : Int) := by
  apply Int64.toInt.inj
  rw [lI_toInt (by omega), Int32.toInt_toInt64]
  exact Int32.toInt_ofNat_of_lt (by omega)
/-! long comparisons -/
theorem cmp_eq0 {a b : Int} (ha : inL a) (hb : inL b) : lg_cmp (lI a) (lI b) = 0 ↔ a = b := by
  unfold lg_cmp
  by_cases h : lI b < lI a
  · rw [if_pos h]
    have := (lI_lt hb ha).mp h
    exact ⟨fun q => absurd q (by decide), fun q => by omega⟩
  · rw [if_neg h]
    have h' : ¬ b < a := fun q => h ((lI_lt hb ha).mpr q)
    by_cases he : lI a = lI b
    · rw [if_pos he]
      have := (lI_inj ha hb).mp he
      exact ⟨fun _ => this, fun _ => rfl⟩
    · rw [if_neg he]
      exact ⟨fun q => absurd q (by decide), fun q => absurd ((lI_inj ha hb).mpr q) he⟩
theorem cmp_le0 {a b : Int} (ha : inL a) (hb : inL b) : lg_cmp (lI a) (lI b) ≤ 0 ↔ a ≤ b := by
  unfold lg_cmp
  by_cases h : lI b < lI a
  · rw [if_pos h]
    have := (lI_lt hb ha).mp h
    exact ⟨fun q => absurd q (by decide), fun q => by omega⟩
  · rw [if_neg h]
    have h' : ¬ b < a := fun q => h ((lI_lt hb ha).mpr q)
    by_cases he : lI a = lI b
    · rw [if_pos he]
      exact ⟨fun _ => by omega, fun _ => by decide⟩
    · rw [if_neg he]
      exact ⟨fun _ => by omega, fun _ => by decide⟩
theorem cmp_ge0 {a b : Int} (ha : inL a) (hb : inL b) : 0 ≤ lg_cmp (lI a) (lI b) ↔ b ≤ a := by
  unfold lg_cmp
  by_cases h : lI b < lI a
  · rw [if_pos h]
    have := (lI_lt hb ha).mp h
    exact ⟨fun q => by omega, fun q => by decide⟩
  · rw [if_neg h]
    have h' : ¬ b < a := fun q => h ((lI_lt hb ha).mpr q)
    by_cases he : lI a = lI b
    · rw [if_pos he]
      have := (lI_inj ha hb).mp he
      exact ⟨fun _ => by omega, fun _ => by decide⟩
    · rw [if_neg he]
      have : a ≠ b := fun q => he (by rw [q])
      exact ⟨fun q => absurd q (by decide), fun q => by omega⟩
theorem i32_lt_of_not_le {x y : Int32} : x < y ↔ ¬ y ≤ x := Int32.not_le.symm
theorem cmp_lt0 {a b : Int} (ha : inL a) (hb : inL b) : lg_cmp (lI a) (lI b) < 0 ↔ a < b := by
  rw [i32_lt_of_not_le, cmp_ge0 ha hb]; omega
theorem cmp_gt0 {a b : Int} (ha : inL a) (hb : inL b) : 0 < lg_cmp (lI a) (lI b) ↔ b < a := by
  rw [i32_lt_of_not_le, cmp_le0 ha hb]; omega
/-! ints -/
theorem nI_lit (n : Nat) : (OfNat.ofNat n : Int32) = nI n := rfl
theorem nI_mul (a b : Nat) : nI a * nI b = nI (a * b) := (Int32.ofNat_mul a b).symm
theorem nI_add' (a b : Nat) : nI a + nI b = nI (a + b) := am_nadd a b
theorem nI_sub' {a b : Nat} (h : b ≤ a) : nI a - nI b = nI (a - b) := (Int32.ofNat_sub a b h).symm
theorem nI_toInt1 {a : Nat} (h : a < 2147483648) : (nI a).toInt = (a : Int) := Int32.toInt_ofNat_of_lt (by omega)
theorem nI_div' {a b : Nat} (ha : a < 2147483648) (hb : b < 2147483648) (h1 : 0 < b) : nI a / nI b = nI (a / b) := by
  apply Int32.toInt.inj
  have hq : a / b ≤ a := Nat.div_le_self a b
  rw [nI_toInt1 (a := a / b) (by omega), Int32.toInt_div_of_ne_right, nI_toInt1 ha, nI_toInt1 hb]
  · rfl
  · intro hc
    have := congrArg Int32.toInt hc
    rw [nI_toInt1 hb] at this
    have h2 : (-1 : Int32).toInt = -1 := by decide
    omega
theorem nI_eq1 {a b : Nat} (ha : a < 2147483648) (hb : b < 2147483648) : nI a = nI b ↔ a = b := ⟨nI_inj ha hb, fun h => by rw [h]⟩
theorem nI_ne1 {a : Nat} (ha : a < 2147483648) : nI a ≠ -1 := by
  intro hc
  have := congrArg Int32.toInt hc
  rw [nI_toInt1 ha] at this
  have h2 : (-1 : Int32).toInt = -1 := by decide
  omega
theorem nI_neg1 {a : Nat} (ha : a < 2147483648) : ¬ nI a < 0 := by
  have := nI_lt' (a := a) (b := 0) ha (by omega)
  intro h
  have := this.mp h
  omega
