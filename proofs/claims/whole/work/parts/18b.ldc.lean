/-! Constants out of the pool, by their own rows. -/
section ARC
variable {P : am_P} {sc : am_Sc} {F L mc ms j : Nat} {Q : Option Value → am_H → Prop} {pc pc' : Nat} {lo : am_Lo} {st : List Value} {h : am_H} {k n : Nat}
theorem ar_ldc (ok : am_ok P j) {x len a b c : Nat} {w : Int32} (hi : P.1 j pc = some (.ldc x, len, a, b, c)) (hv : Int32.ofNat b = w) (hp : pc + 2 = pc') (hk : k ≤ mc) (hn : n ≤ ms) (kk : am_S P sc F L mc ms j (pc', lo, .int w :: st, h, k, n) Q) : am_S P sc F L mc ms j (pc, lo, st, h, k, n) Q := by
  subst hp; subst hv
  exact am_step ok (am_f_hp hi rfl rfl rfl (y := (pc + 2, .int (Int32.ofNat b) :: st, h, k, n)) rfl) hk hn kk
theorem ar_ldc2 (ok : am_ok P j) {x len a b c : Nat} {w : Int64} (hi : P.1 j pc = some (.ldc2_w x, len, a, b, c)) (hv : Int64.ofNat b = w) (hp : pc + 3 = pc') (hk : k ≤ mc) (hn : n ≤ ms) (kk : am_S P sc F L mc ms j (pc', lo, .long w :: st, h, k, n) Q) : am_S P sc F L mc ms j (pc, lo, st, h, k, n) Q := by
  subst hp; subst hv
  exact am_step ok (am_f_hp hi rfl rfl rfl (y := (pc + 3, .long (Int64.ofNat b) :: st, h, k, n)) rfl) hk hn kk
end ARC
