/-! Posts of the reference's contracts; a switch whose key is known. -/
def mQv (s : mS) (h0 : am_H) : Option Value → am_H → Prop := fun r h' => r = none ∧ RM s h' ∧ mF h0 h'
def mQr (v : Value) (s : mS) (h0 : am_H) : Option Value → am_H → Prop := fun r h' => r = some v ∧ RM s h' ∧ mF h0 h'
theorem ar_tswk {P : am_P} {sc : am_Sc} {F L mc ms j : Nat} {Q : Option Value → am_H → Prop} {pc : Nat} {lo : am_Lo} {st : List Value} {h : am_H} {k n : Nat} (ok : am_ok P j) {len a b c t : Nat} {d lo0 hi0 off : Int} {offs : Array Int} {x c0 : Int32} (hi : P.1 j pc = some (.tableswitch d lo0 hi0 offs, len, a, b, c)) (hx : x = c0) (hin : ¬ (c0.toInt < lo0 ∨ hi0 < c0.toInt)) (ho : offs[(c0.toInt - lo0).toNat]? = some off) (ht : am_tgt pc off = some t) (hk : k ≤ mc) (hn : n ≤ ms) (kk : am_S P sc F L mc ms j (t, lo, st, h, k, n) Q) : am_S P sc F L mc ms j (pc, lo, .int x :: st, h, k, n) Q := by
  subst hx
  refine am_step (x' := (t, lo, st, h, k, n)) ok ?_ hk hn kk
  unfold am_f
  rw [hi]
  show (match (am_p3 (.tableswitch d lo0 hi0 offs) a pc (.int x :: st)) with | some y => _ | none => _) = _
  have e : am_p3 (.tableswitch d lo0 hi0 offs) a pc (.int x :: st) = some (t, st) := by
    show (if x.toInt < lo0 ∨ hi0 < x.toInt then _ else _) = _
    rw [if_neg hin, ho]
    show (am_tgt pc off).bind _ = _
    rw [ht]; rfl
  rw [e]
theorem tsw_out {x : Int32} {lo hi : Int} (h : ∀ c : Int, lo ≤ c → c ≤ hi → ¬ x = Int32.ofInt c) : x.toInt < lo ∨ hi < x.toInt := by
  by_cases h1 : x.toInt < lo
  · exact Or.inl h1
  · by_cases h2 : hi < x.toInt
    · exact Or.inr h2
    · exact absurd (Int32.ofInt_toInt x).symm (h x.toInt (by omega) (by omega))
