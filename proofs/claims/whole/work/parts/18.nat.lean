/-! Rows where a number is a natural one: nI a. -/
section ARN
variable {P : am_P} {sc : am_Sc} {F L mc ms j : Nat} {Q : Option Value → am_H → Prop} {pc pc' : Nat} {lo lo' : am_Lo} {st : List Value} {h : am_H} {k n : Nat}
theorem ar_iadd (ok : am_ok P j) {len a b c : Nat} {x y w : Int32} (hi : P.1 j pc = some (.iadd, len, a, b, c)) (hv : x + y = w) (hp : pc + 1 = pc') (hk : k ≤ mc) (hn : n ≤ ms) (kk : am_S P sc F L mc ms j (pc', lo, .int w :: st, h, k, n) Q) : am_S P sc F L mc ms j (pc, lo, .int y :: .int x :: st, h, k, n) Q := by
  subst hp; subst hv
  exact am_step ok (am_f_p2 hi rfl rfl) hk hn kk
theorem am_f_p1 {i : am_I} {y : Nat × am_Lo × List Value} (hi : P.1 j pc = some i) (h1 : am_p1 i.1 pc lo st = some y) : am_f P sc F L j (pc, lo, st, h, k, n) = some (y.1, y.2.1, y.2.2, h, k, n) := by
  unfold am_f
  rw [hi]
  show (match am_p1 i.1 pc lo st with | some y => _ | none => _) = _
  rw [h1]
theorem ar_iinc (ok : am_ok P j) {i len a b c : Nat} {d : Int} {x w : Int32} (hi : P.1 j pc = some (.iinc i d, len, a, b, c)) (hx : am_glI lo i = some x) (hl : i < lo.length) (hv : x + Int32.ofInt d = w) (hs : am_sl1 lo i (.int w) = lo') (hp : pc + 3 = pc') (hk : k ≤ mc) (hn : n ≤ ms) (kk : am_S P sc F L mc ms j (pc', lo', st, h, k, n) Q) : am_S P sc F L mc ms j (pc, lo, st, h, k, n) Q := by
  subst hp; subst hs; subst hv
  refine am_step ok (am_f_p1 hi (y := (pc + 3, am_sl1 lo i (.int (x + Int32.ofInt d)), st)) ?_) hk hn kk
  show (am_glI lo i).bind _ = _
  rw [hx]
  exact if_pos hl
end ARN
/-- literals and natural numbers -/
theorem am_nadd (a b : Nat) : nI a + nI b = nI (a + b) := nI_add a b
theorem am_leN {a b : Nat} (ha : a < 2 ^ 31) (hb : b < 2 ^ 31) (h : nI a ≤ nI b) : a ≤ b := (nI_leI ha hb).mp h
theorem am_nleN {a b : Nat} (hb : b < 2 ^ 31) (h : ¬ nI a ≤ nI b) : b < a := by
  rcases Nat.lt_or_ge b a with q | q
  · exact q
  · exact absurd (nI_le q hb) h
theorem am_ltN {a b : Nat} (ha : a < 2 ^ 31) (hb : b < 2 ^ 31) (h : nI a < nI b) : a < b := (nI_ltI ha hb).mp h
theorem am_nltN {a b : Nat} (hb : b < 2 ^ 31) (h : ¬ nI a < nI b) : b ≤ a := by
  rcases Nat.lt_or_ge a b with q | q
  · exact absurd (nI_lt q hb) h
  · exact q
theorem am_ixN {i N : Nat} (h : i < N) (hN : N < 2 ^ 31) : am_ix (nI i) N = some i := by
  unfold am_ix
  rw [if_neg (nI_in h hN), nI_clamp (Nat.lt_trans h hN)]
