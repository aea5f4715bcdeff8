/-! A new array of numbers. -/
theorem ar_newa {P : am_P} {sc : am_Sc} {F L mc ms j : Nat} {Q : Option Value → am_H → Prop} {pc pc' : Nat} {lo : am_Lo} {st : List Value} {h : am_H} {k n : Nat} (ok : am_ok P j) {len a b c N ad k' n' : Nat} {at0 : ArrayType} {d : Nat × Nat × am_X} {i : Int32} (hi : P.1 j pc = some (.newarray at0, len, a, b, c)) (hd : am_nt at0 = some d) (hneg : ¬ i < 0) (hN : i.toNatClampNeg = N) (hb : N * d.2.1 ≤ 536870912) (hl : h.length = ad) (hM : ad < am_M) (hp : pc + 2 = pc') (hk' : k + 1 = k') (hn' : n + N = n') (hk : k' ≤ mc) (hn : n' ≤ ms) (kk : ∀ h' : am_H, h'[ad]? = some (.inl (d.1, N, d.2.2)) → (∀ q, q ≠ ad → h'[q]? = h[q]?) → h'.length = ad + 1 → am_S P sc F L mc ms j (pc', lo, .ref ad :: st, h', k', n') Q) : am_S P sc F L mc ms j (pc, lo, .int i :: st, h, k, n) Q := by
  subst hp; subst hk'; subst hn'; subst hN; subst hl
  refine am_step ok (am_f_hp hi rfl rfl rfl (y := (pc + 2, .ref h.length :: st, h ++ [.inl (d.1, i.toNatClampNeg, d.2.2)], k + 1, n + i.toNatClampNeg)) ?_) hk hn (kk _ ?_ ?_ ?_)
  · show (am_nt at0).bind _ = _
    rw [hd]
    show (if i < 0 then _ else _) = _
    rw [if_neg hneg]
    exact if_pos ⟨hb, hM⟩
  · simp
  · intro q hq
    rcases Nat.lt_or_ge q h.length with z | z
    · exact List.getElem?_append_left z
    · rw [List.getElem?_eq_none (by rw [List.length_append]; simp; omega), List.getElem?_eq_none z]
  · simp
