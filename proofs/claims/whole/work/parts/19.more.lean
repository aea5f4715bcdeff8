/-! More rows: a byte out of an array, an array's length, an element that is set to null or to an object. -/
section ARM
variable {P : am_P} {sc : am_Sc} {F L mc ms j : Nat} {Q : Option Value → am_H → Prop} {pc pc' : Nat} {lo : am_Lo} {st : List Value} {h : am_H} {k n : Nat}
theorem ar_bald (ok : am_ok P j) {len a b c ad t N jx : Nat} {f : Nat → Int32} {i v : Int32} (hi : P.1 j pc = some (.baload, len, a, b, c)) (hc : h[ad]? = some (.inl (t, N, .inl f))) (ht : t = 2 ∨ t = 3) (hx : am_ix i N = some jx) (hv : f jx = v) (hp : pc + 1 = pc') (hk : k ≤ mc) (hn : n ≤ ms) (kk : am_S P sc F L mc ms j (pc', lo, .int v :: st, h, k, n) Q) : am_S P sc F L mc ms j (pc, lo, .int i :: .ref ad :: st, h, k, n) Q := by
  subst hp; subst hv
  refine am_step ok (am_f_hp hi rfl rfl rfl (y := (pc + 1, .int (f jx) :: st, h, k, n)) ?_) hk hn kk
  show (am_ai h ad).bind _ = _
  rw [show am_ai h ad = some (t, N, f) by unfold am_ai; rw [hc]]
  show (if t = 2 ∨ t = 3 then (am_ix i N).bind _ else _) = _
  rw [if_pos ht, hx]; rfl
theorem ar_alen (ok : am_ok P j) {len a b c ad t N : Nat} {x : am_X} {w : Int32} (hi : P.1 j pc = some (.arraylength, len, a, b, c)) (hM : ad ≠ am_M) (hc : h[ad]? = some (.inl (t, N, x))) (ht : t < 8) (hv : Int32.ofNat N = w) (hp : pc + 1 = pc') (hk : k ≤ mc) (hn : n ≤ ms) (kk : am_S P sc F L mc ms j (pc', lo, .int w :: st, h, k, n) Q) : am_S P sc F L mc ms j (pc, lo, .ref ad :: st, h, k, n) Q := by
  subst hp; subst hv
  refine am_step ok (am_f_hp hi rfl rfl rfl (y := (pc + 1, .int (Int32.ofNat N) :: st, h, k, n)) ?_) hk hn kk
  show (if ad = am_M then _ else (am_an h ad).bind _) = _
  rw [if_neg hM, show am_an h ad = some (t, N, x) by unfold am_an; rw [hc]]
  exact if_pos ht
theorem ar_aast (ok : am_ok P j) {len a b c ad t N jx v : Nat} {f : Nat → Option Nat} {i : Int32} {vs : List Value} (hi : P.1 j pc = some (.aastore, len, a, b, c)) (hc : h[ad]? = some (.inl (t, N, .inr (.inr (.inr (.inr f)))))) (ht : 4 ≤ t ∧ t < 8) (hx : am_ix i N = some jx) (ho : h[v]? = some (.inr (am_ec t, vs))) (hp : pc + 1 = pc') (hk : k ≤ mc) (hn : n ≤ ms) (kk : ∀ h' : am_H, h'[ad]? = some (.inl (t, N, .inr (.inr (.inr (.inr (va_up f jx (some v))))))) → (∀ q, q ≠ ad → h'[q]? = h[q]?) → h'.length = h.length → am_S P sc F L mc ms j (pc', lo, st, h', k, n) Q) : am_S P sc F L mc ms j (pc, lo, .ref v :: .int i :: .ref ad :: st, h, k, n) Q := by
  subst hp
  have hlt : ad < h.length := (List.getElem?_eq_some_iff.mp hc).1
  refine am_step ok (am_f_hp hi rfl rfl rfl (y := (pc + 1, st, h.set ad (.inl (t, N, .inr (.inr (.inr (.inr (va_up f jx (some v))))))), k, n)) ?_) hk hn (kk _ ?_ ?_ ?_)
  · show (am_aq h ad).bind _ = _
    rw [show am_aq h ad = some (t, N, f) by unfold am_aq; rw [hc]]
    show (if 4 ≤ t ∧ t < 8 ∧ am_so h (some v) (am_ec t) = true then (am_ix i N).bind _ else _) = _
    rw [if_pos ⟨ht.1, ht.2, by show (am_oc h v == some (am_ec t)) = true; rw [show am_oc h v = some (am_ec t) by unfold am_oc; rw [ho]]; exact beq_self_eq_true _⟩, hx]; rfl
  · exact List.getElem?_set_self hlt
  · intro q hq; exact List.getElem?_set_ne (fun z => hq z.symm)
  · exact List.length_set
theorem ar_aastN (ok : am_ok P j) {len a b c ad t N jx : Nat} {f : Nat → Option Nat} {i : Int32} (hi : P.1 j pc = some (.aastore, len, a, b, c)) (hc : h[ad]? = some (.inl (t, N, .inr (.inr (.inr (.inr f)))))) (ht : 4 ≤ t ∧ t < 8) (hx : am_ix i N = some jx) (hp : pc + 1 = pc') (hk : k ≤ mc) (hn : n ≤ ms) (kk : ∀ h' : am_H, h'[ad]? = some (.inl (t, N, .inr (.inr (.inr (.inr (va_up f jx none)))))) → (∀ q, q ≠ ad → h'[q]? = h[q]?) → h'.length = h.length → am_S P sc F L mc ms j (pc', lo, st, h', k, n) Q) : am_S P sc F L mc ms j (pc, lo, .null :: .int i :: .ref ad :: st, h, k, n) Q := by
  subst hp
  have hlt : ad < h.length := (List.getElem?_eq_some_iff.mp hc).1
  refine am_step ok (am_f_hp hi rfl rfl rfl (y := (pc + 1, st, h.set ad (.inl (t, N, .inr (.inr (.inr (.inr (va_up f jx none)))))), k, n)) ?_) hk hn (kk _ ?_ ?_ ?_)
  · show (am_aq h ad).bind _ = _
    rw [show am_aq h ad = some (t, N, f) by unfold am_aq; rw [hc]]
    show (if 4 ≤ t ∧ t < 8 ∧ am_so h none (am_ec t) = true then (am_ix i N).bind _ else _) = _
    rw [if_pos ⟨ht.1, ht.2, rfl⟩, hx]; rfl
  · exact List.getElem?_set_self hlt
  · intro q hq; exact List.getElem?_set_ne (fun z => hq z.symm)
  · exact List.length_set
end ARM
