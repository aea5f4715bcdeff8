/-! A local that is no longer wanted. -/
theorem am_drop {P : am_P} {sc : am_Sc} {F L mc ms j : Nat} {Q : Option Value → am_H → Prop} {pc : Nat} {lo : am_Lo} {y : List Value × am_H × Nat × Nat} (i : Nat) (h : am_S P sc F L mc ms j (pc, lo.set i none, y) Q) : am_S P sc F L mc ms j (pc, lo, y) Q := by
  intro d hd p l e R s m args below meth c g Z hC hK h1 h2 h3 h4 hZ H locs ls hW hL
  refine h d hd p l e R s m args below meth c g Z hC hK h1 h2 h3 h4 hZ H locs ls hW ⟨by rw [List.length_set]; exact hL.1, hL.2.1, hL.2.2.1, fun k v hk => ?_⟩
  by_cases hki : k = i
  · subst hki
    rw [List.getElem?_set] at hk
    simp at hk
  · rw [List.getElem?_set_ne (fun z => hki z.symm)] at hk
    exact hL.2.2.2 k v hk
