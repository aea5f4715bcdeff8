/-! Names: lists of digits of base 36; the class counts them by 36, the reference by 256. -/
def chr36 (z : Nat) : Nat := if z < 10 then 48 + z else 55 + z
def b36 (d : List Nat) : Nat := d.foldl (fun v z => v * 36 + z) 0
def b256 (d : List Nat) : Nat := d.foldl (fun v z => v * 256 + chr36 z) 0
def is36 (d : List Nat) : Prop := ∀ z ∈ d, z < 36
theorem chr36_lt {z : Nat} (h : z < 36) : chr36 z < 91 := by
  unfold chr36
  split <;> omega
theorem chr36_pos (z : Nat) : 48 ≤ chr36 z := by
  unfold chr36
  split <;> omega
theorem chr36_inj {x y : Nat} (h : chr36 x = chr36 y) : x = y := by
  unfold chr36 at h
  split at h <;> split at h <;> omega
theorem b36_app (d : List Nat) (z : Nat) : b36 (d ++ [z]) = b36 d * 36 + z := by
  unfold b36
  rw [List.foldl_append]; rfl
theorem b256_app (d : List Nat) (z : Nat) : b256 (d ++ [z]) = b256 d * 256 + chr36 z := by
  unfold b256
  rw [List.foldl_append]; rfl
theorem is36_app {d : List Nat} {z : Nat} (h : is36 (d ++ [z])) : is36 d ∧ z < 36 := ⟨fun x hx => h x (List.mem_append_left _ hx), h z (List.mem_append_right _ (List.mem_singleton.mpr rfl))⟩
theorem b36_inj : ∀ (n : Nat) (d e : List Nat), d.length = n → e.length = n → is36 d → is36 e → b36 d = b36 e → d = e := by
  intro n
  induction n with
  | zero =>
    intro d e hd he _ _ _
    rw [List.length_eq_zero_iff.mp hd, List.length_eq_zero_iff.mp he]
  | succ n ih =>
    intro d e hd he h1 h2 h
    have hd0 : d ≠ [] := fun q => by rw [q] at hd; cases hd
    have he0 : e ≠ [] := fun q => by rw [q] at he; cases he
    rw [← List.dropLast_concat_getLast hd0] at h h1 hd ⊢
    rw [← List.dropLast_concat_getLast he0] at h h2 he ⊢
    rw [b36_app, b36_app] at h
    obtain ⟨g1, g2⟩ := is36_app h1
    obtain ⟨g3, g4⟩ := is36_app h2
    have e1 : d.getLast hd0 = e.getLast he0 := by omega
    have e2 : b36 d.dropLast = b36 e.dropLast := by omega
    rw [List.length_append, List.length_singleton] at hd he
    rw [ih _ _ (by omega) (by omega) g1 g3 e2, e1]
theorem b256_inj : ∀ (n : Nat) (d e : List Nat), d.length = n → e.length = n → is36 d → is36 e → b256 d = b256 e → d = e := by
  intro n
  induction n with
  | zero =>
    intro d e hd he _ _ _
    rw [List.length_eq_zero_iff.mp hd, List.length_eq_zero_iff.mp he]
  | succ n ih =>
    intro d e hd he h1 h2 h
    have hd0 : d ≠ [] := fun q => by rw [q] at hd; cases hd
    have he0 : e ≠ [] := fun q => by rw [q] at he; cases he
    rw [← List.dropLast_concat_getLast hd0] at h h1 hd ⊢
    rw [← List.dropLast_concat_getLast he0] at h h2 he ⊢
    rw [b256_app, b256_app] at h
    obtain ⟨g1, g2⟩ := is36_app h1
    obtain ⟨g3, g4⟩ := is36_app h2
    have l1 := chr36_lt g2
    have l2 := chr36_lt g4
    have e1 : d.getLast hd0 = e.getLast he0 := chr36_inj (by omega)
    have e2 : b256 d.dropLast = b256 e.dropLast := by omega
    rw [List.length_append, List.length_singleton] at hd he
    rw [ih _ _ (by omega) (by omega) g1 g3 e2, e1]
theorem b36_lt : ∀ (n : Nat) (d : List Nat), d.length = n → is36 d → b36 d < 36 ^ n := by
  intro n
  induction n with
  | zero => intro d hd _; rw [List.length_eq_zero_iff.mp hd]; decide
  | succ n ih =>
    intro d hd h1
    have hd0 : d ≠ [] := fun q => by rw [q] at hd; cases hd
    rw [← List.dropLast_concat_getLast hd0] at h1 hd ⊢
    obtain ⟨g1, g2⟩ := is36_app h1
    rw [List.length_append, List.length_singleton] at hd
    have := ih d.dropLast (by omega) g1
    rw [b36_app, Nat.pow_succ]
    omega
theorem b256_lt : ∀ (n : Nat) (d : List Nat), d.length = n + 1 → is36 d → b256 d < 128 * 256 ^ n := by
  intro n
  induction n with
  | zero =>
    intro d hd h1
    have hd0 : d ≠ [] := fun q => by rw [q] at hd; cases hd
    rw [← List.dropLast_concat_getLast hd0] at h1 hd ⊢
    obtain ⟨g1, g2⟩ := is36_app h1
    rw [List.length_append, List.length_singleton] at hd
    have l1 := chr36_lt g2
    rw [b256_app, List.length_eq_zero_iff.mp (show d.dropLast.length = 0 by omega)]
    show 0 * 256 + _ < _
    omega
  | succ n ih =>
    intro d hd h1
    have hd0 : d ≠ [] := fun q => by rw [q] at hd; cases hd
    rw [← List.dropLast_concat_getLast hd0] at h1 hd ⊢
    obtain ⟨g1, g2⟩ := is36_app h1
    rw [List.length_append, List.length_singleton] at hd
    have i1 := ih d.dropLast (by omega) g1
    have l1 := chr36_lt g2
    rw [b256_app, Nat.pow_succ]
    generalize 256 ^ n = w at i1 ⊢
    omega
