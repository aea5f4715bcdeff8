/-! Divisions, whose divisors are known. -/
section ARD
variable {P : am_P} {sc : am_Sc} {F L mc ms j : Nat} {Q : Option Value → am_H → Prop} {pc pc' : Nat} {lo : am_Lo} {st : List Value} {h : am_H} {k n : Nat}
theorem am_f_p2 {i : am_I} {st' : List Value} (hi : P.1 j pc = some i) (h1 : am_p1 i.1 pc lo st = none) (h2 : am_p2 i.1 st = some st') : am_f P sc F L j (pc, lo, st, h, k, n) = some (pc + 1, lo, st', h, k, n) := by
  unfold am_f
  rw [hi]
  show (match am_p1 i.1 pc lo st with | some y => _ | none => _) = _
  rw [h1]
  show (match am_p2 i.1 st with | some y => _ | none => _) = _
  rw [h2]
theorem ar_idiv (ok : am_ok P j) {len a b c : Nat} {x y w : Int32} (hi : P.1 j pc = some (.idiv, len, a, b, c)) (hne : ¬ y = 0) (hv : x / y = w) (hp : pc + 1 = pc') (hk : k ≤ mc) (hn : n ≤ ms) (kk : am_S P sc F L mc ms j (pc', lo, .int w :: st, h, k, n) Q) : am_S P sc F L mc ms j (pc, lo, .int y :: .int x :: st, h, k, n) Q := by
  subst hp; subst hv
  exact am_step ok (am_f_p2 hi rfl (if_neg hne)) hk hn kk
theorem ar_irem (ok : am_ok P j) {len a b c : Nat} {x y w : Int32} (hi : P.1 j pc = some (.irem, len, a, b, c)) (hne : ¬ y = 0) (hv : x - x / y * y = w) (hp : pc + 1 = pc') (hk : k ≤ mc) (hn : n ≤ ms) (kk : am_S P sc F L mc ms j (pc', lo, .int w :: st, h, k, n) Q) : am_S P sc F L mc ms j (pc, lo, .int y :: .int x :: st, h, k, n) Q := by
  subst hp; subst hv
  exact am_step ok (am_f_p2 hi rfl (if_neg hne)) hk hn kk
theorem ar_ldiv (ok : am_ok P j) {len a b c : Nat} {x y w : Int64} (hi : P.1 j pc = some (.ldiv, len, a, b, c)) (hne : ¬ y = 0) (hv : x / y = w) (hp : pc + 1 = pc') (hk : k ≤ mc) (hn : n ≤ ms) (kk : am_S P sc F L mc ms j (pc', lo, .long w :: st, h, k, n) Q) : am_S P sc F L mc ms j (pc, lo, .long y :: .long x :: st, h, k, n) Q := by
  subst hp; subst hv
  exact am_step ok (am_f_p2 hi rfl (if_neg hne)) hk hn kk
theorem ar_lrem (ok : am_ok P j) {len a b c : Nat} {x y w : Int64} (hi : P.1 j pc = some (.lrem, len, a, b, c)) (hne : ¬ y = 0) (hv : x - x / y * y = w) (hp : pc + 1 = pc') (hk : k ≤ mc) (hn : n ≤ ms) (kk : am_S P sc F L mc ms j (pc', lo, .long w :: st, h, k, n) Q) : am_S P sc F L mc ms j (pc, lo, .long y :: .long x :: st, h, k, n) Q := by
  subst hp; subst hv
  exact am_step ok (am_f_p2 hi rfl (if_neg hne)) hk hn kk
theorem ar_isub (ok : am_ok P j) {len a b c : Nat} {x y w : Int32} (hi : P.1 j pc = some (.isub, len, a, b, c)) (hv : x - y = w) (hp : pc + 1 = pc') (hk : k ≤ mc) (hn : n ≤ ms) (kk : am_S P sc F L mc ms j (pc', lo, .int w :: st, h, k, n) Q) : am_S P sc F L mc ms j (pc, lo, .int y :: .int x :: st, h, k, n) Q := by
  subst hp; subst hv
  exact am_step ok (am_f_p2 hi rfl rfl) hk hn kk
theorem ar_lsub (ok : am_ok P j) {len a b c : Nat} {x y w : Int64} (hi : P.1 j pc = some (.lsub, len, a, b, c)) (hv : x - y = w) (hp : pc + 1 = pc') (hk : k ≤ mc) (hn : n ≤ ms) (kk : am_S P sc F L mc ms j (pc', lo, .long w :: st, h, k, n) Q) : am_S P sc F L mc ms j (pc, lo, .long y :: .long x :: st, h, k, n) Q := by
  subst hp; subst hv
  exact am_step ok (am_f_p2 hi rfl rfl) hk hn kk
/-- a table switch whose key is known, or out of its range -/
theorem ar_tsw (ok : am_ok P j) {len a b c t : Nat} {d lo0 hi0 : Int} {offs : Array Int} {x : Int32} (hi : P.1 j pc = some (.tableswitch d lo0 hi0 offs, len, a, b, c)) (hx : x.toInt < lo0 ∨ hi0 < x.toInt) (ht : am_tgt pc d = some t) (hk : k ≤ mc) (hn : n ≤ ms) (kk : am_S P sc F L mc ms j (t, lo, st, h, k, n) Q) : am_S P sc F L mc ms j (pc, lo, .int x :: st, h, k, n) Q := by
  refine am_step (x' := (t, lo, st, h, k, n)) ok ?_ hk hn kk
  unfold am_f
  rw [hi]
  show (match (am_p3 (.tableswitch d lo0 hi0 offs) a pc (.int x :: st)) with | some y => _ | none => _) = _
  have e : am_p3 (.tableswitch d lo0 hi0 offs) a pc (.int x :: st) = some (t, st) := by
    show (if x.toInt < lo0 ∨ hi0 < x.toInt then _ else _) = _
    rw [if_pos hx, ht]; rfl
  rw [e]
end ARD
