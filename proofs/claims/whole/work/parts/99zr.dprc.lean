/-! Judging a price: the reference. -/
theorem d_jprc_loop {s : mS} {z : Z} (hB : MB s z) (hC : okC z) (hf : ∀ a, z.fc = some a → a < z.ast.length) (hpos : ∀ P, inL (z.pos P)) (hm : z.mem.length ≤ 256) (v1 : Int32) (v2 : Int64) (v4 : Int32) : ∀ (d fu j : Nat) (b : Bool), z.mem.length - j = d → d < fu → j ≤ z.mem.length → 1 ≤ j → l_Mo_priceFault_68 fu v1 v2 v4 (b2i b) (nI j) s = some (b2i (b || anyB z j d)) := by
  intro d
  induction d with
  | zero =>
    intro fu j b hd hf' hj h1
    obtain ⟨fu, rfl⟩ : ∃ f, fu = f + 1 := ⟨fu - 1, by omega⟩
    unfold l_Mo_priceFault_68
    rw [hB.mem, if_pos (nI_le0 (by omega) (by omega) (by omega))]
    show _ = some (b2i (b || false))
    rw [Bool.or_false]
  | succ d ih =>
    intro fu j b hd hf' hj h1
    obtain ⟨fu, rfl⟩ : ∃ f, fu = f + 1 := ⟨fu - 1, by omega⟩
    have IH := fun b => ih fu (j + 1) b (by omega) (by omega) (by omega) (by omega)
    unfold l_Mo_priceFault_68
    rw [hB.mem, if_neg (nI_ngt (by omega) (by omega) (by omega)), d_below hB hC hf hpos (p := j) (by omega), Option.bind_some, nI_add1]
    have e : anyB z j (d + 1) = (z.bel j || anyB z (j + 1) d) := by
      conv => lhs; unfold anyB
      rw [decide_eq_true (show j ≠ 0 by omega), Bool.true_and]
    rw [e]
    cases b with
    | true =>
      rw [if_pos (by decide), Option.bind_some, Bool.true_or]
      have := IH true
      rw [Bool.true_or] at this
      exact this
    | false =>
      rw [if_neg (by decide), Bool.false_or]
      cases z.bel j with
      | true =>
        rw [if_neg (by decide), Option.bind_some]
        exact IH true
      | false =>
        rw [if_pos (by decide), Option.bind_some]
        exact IH false
theorem okC.uPrc {z : Z} (h : okC z) {a prc cut : Nat} (h1 : prc < 1000000000000000) (h2 : cut < 100) : okC (z.uPrc a prc cut) := by
  obtain ⟨c1, c2, c3⟩ := h
  refine ⟨by rw [uPrc_len]; exact c1, fun y hy => ?_, c3⟩
  obtain ⟨k, hk⟩ := List.mem_iff_getElem?.mp hy
  rw [uPrc_ast, List.getElem?_modify] at hk
  cases hx : z.ast[k]? with
  | none => rw [hx] at hk; cases hk
  | some x =>
    rw [hx] at hk
    have hk' : (if a = k then mkAst x.cd x.mny prc cut else x) = y := Option.some.inj hk
    by_cases c : a = k
    · rw [if_pos c] at hk'
      rw [← hk']; exact ⟨h1, h2⟩
    · rw [if_neg c] at hk'
      rw [← hk']; exact c2 x (List.mem_of_getElem? hx)
