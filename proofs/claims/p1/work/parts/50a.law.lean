/-! The law on scripts of one call at most. -/
def moH0 : am_H := hoH ++ [.inr (1, am_df 1)]
theorem moH0_len : moH0.length = 23 := by unfold moH0; rw [List.length_append, ho_counts.2.2.2]; rfl
theorem moH0_22 : moH0[22]? = some (.inr (1, [.null, .int 0, .null, .int 0, .int 0, .int 0, .null, .int 0, .int 0, .null, .int 0, .null, .null, .null, .null, .int 0, .int 0, .null, .null, .null, .null, .null, .null, .null, .null, .int 0, .null, .null, .null, .null, .int 0, .int 0, .int 0, .null, .null, .null, .null, .null, .null, .null, .null, .null, .null, .null, .null, .long 0, .null, .null, .int 0, .null, .null, .null, .long 0, .int 0, .int 0, .int 0, .int 0, .int 0, .int 0, .int 0, .int 0, .int 0])) := by unfold moH0; rw [List.getElem?_append_right (by rw [ho_counts.2.2.2]; exact Nat.le_refl _), ho_counts.2.2.2]; rfl
theorem moH0_lt (q : Nat) (h : q < 22) : moH0[q]? = hoH[q]? := List.getElem?_append_left (by rw [ho_counts.2.2.2]; exact h)
theorem am_sw9 (x : Int32) : x = 0 ∨ x = 1 ∨ x = 2 ∨ x = 3 ∨ x = 4 ∨ x = 5 ∨ x = 6 ∨ x = 7 ∨ x = 8 ∨ (x.toInt < 0 ∨ 8 < x.toInt) := by
  rcases am_sw10 x with h | h | h | h | h | h | h | h | h | h | h
  · left; exact h
  · right; left; exact h
  · right; right; left; exact h
  · right; right; right; left; exact h
  · right; right; right; right; left; exact h
  · right; right; right; right; right; left; exact h
  · right; right; right; right; right; right; left; exact h
  · right; right; right; right; right; right; right; left; exact h
  · right; right; right; right; right; right; right; right; left; exact h
  · right; right; right; right; right; right; right; right; right; right; rw [h]; decide
  · right; right; right; right; right; right; right; right; right
    rcases h with h | h
    · left; exact h
    · right; omega
theorem ar_new {P : am_P} {sc : am_Sc} {F L mc ms j : Nat} {Q : Option Value → am_H → Prop} {pc pc' : Nat} {lo : am_Lo} {st : List Value} {h : am_H} {k n : Nat} (ok : am_ok P j) {x len a b c N ad k' n' : Nat} (hi : P.1 j pc = some (.new x, len, a, b, c)) (hl : h.length = ad) (hM : ad < am_M) (hN : am_cN b = N) (hp : pc + 3 = pc') (hk' : k + 1 = k') (hn' : n + N = n') (hk : k' ≤ mc) (hn : n' ≤ ms) (kk : am_S P sc F L mc ms j (pc', lo, .ref ad :: st, h ++ [.inr (b, am_df b)], k', n') Q) : am_S P sc F L mc ms j (pc, lo, st, h, k, n) Q := by
  subst hp; subst hk'; subst hn'; subst hN; subst hl
  refine am_step ok (am_f_hp hi rfl rfl rfl (y := (pc + 3, .ref h.length :: st, h ++ [.inr (b, am_df b)], k + 1, n + am_cN b)) ?_) hk hn kk
  exact if_pos hM
