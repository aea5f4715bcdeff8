/-! The reference's books: credit, floors, values. -/
theorem ixI {i N : Nat} (h : i < N) (hN : N < 2147483648) : am_ix (nI i) N = some i := am_ixN h hN
def okC (z : Z) : Prop := (z.ast.length ≤ 64) ∧ (∀ x ∈ z.ast, x.prc < 1000000000000000 ∧ x.cut < 100) ∧ (∀ P, 0 ≤ z.pl P ∧ z.pl P ≤ 4000000000000000000)
theorem okC.ast {z : Z} (h : okC z) : z.ast.length ≤ 64 := h.1
theorem okC.acd {z : Z} (h : okC z) : ∀ x ∈ z.ast, x.prc < 1000000000000000 ∧ x.cut < 100 := h.2.1
theorem okC.pl {z : Z} (h : okC z) : ∀ P, 0 ≤ z.pl P ∧ z.pl P ≤ 4000000000000000000 := h.2.2
theorem okZ.c {n : Nat} {z : Z} (h : okZ n z) (hn : n ≤ 512) : okC z := ⟨h.ast, fun x hx => (h.acd x hx).2.2, fun P => by
  have := h.pl P
  unfold big at this
  omega⟩
theorem b2i_ne0 {b : Bool} : ¬ b2i b = 0 ↔ b = true := by cases b <;> decide
theorem b2i_eq0 {b : Bool} : b2i b = 0 ↔ b = false := by cases b <;> decide
theorem wth_le (n prc cut : Nat) : wth n prc cut ≤ mostN + 1 := Nat.min_le_right _ _
theorem wor_some {z : Z} {p a : Nat} {x : Ast} (h : z.ast[a]? = some x) : z.wor p a = if x.mny then 0 else wth (z.pl (64 * p + a)).toNat x.prc x.cut := by
  unfold Z.wor; rw [h]
theorem mny_some {z : Z} {a : Nat} {x : Ast} (h : z.ast[a]? = some x) : z.mny a = x.mny := by
  unfold Z.mny; rw [h]
theorem wor_le (z : Z) (p a : Nat) : z.wor p a ≤ mostN + 1 := by
  unfold Z.wor
  split
  · split
    · exact Nat.zero_le _
    · exact wth_le _ _ _
  · exact Nat.zero_le _
theorem mostV : mostN = 4000000000000000000 := rfl
theorem pl_nat {z : Z} (h : okC z) (P : Nat) : z.pl P = (((z.pl P).toNat : Nat) : Int) := by
  have := h.pl P
  omega
theorem d_credit_loop {s : mS} {z : Z} (hM : MB s z) (hC : okC z) {p : Nat} (hp : p < 256) : ∀ (d fu k : Nat), z.ast.length - k = d → d < fu → k ≤ z.ast.length → l_Mo_credit_5 fu (nI p) (lI (min (sumN (z.wor p) k) (mostN + 1) : Nat)) (nI k) s = some (lI (min (sumN (z.wor p) z.ast.length) (mostN + 1) : Nat)) := by
  have hl := hC.ast
  intro d
  induction d with
  | zero =>
    intro fu k hk hf hle
    obtain ⟨fu, rfl⟩ : ∃ m, fu = m + 1 := ⟨fu - 1, by omega⟩
    unfold l_Mo_credit_5
    rw [hM.asn, if_pos ((nI_le' (by omega) (by omega)).mpr (by omega)), show k = z.ast.length by omega]
  | succ d ih =>
    intro fu k hk hf hle
    obtain ⟨fu, rfl⟩ : ∃ m, fu = m + 1 := ⟨fu - 1, by omega⟩
    have hkl : k < z.ast.length := by omega
    obtain ⟨x, hx⟩ : ∃ x, z.ast[k]? = some x := ⟨z.ast[k], List.getElem?_eq_getElem hkl⟩
    obtain ⟨g1, g2, g3, g4⟩ := hM.asc k x hx
    obtain ⟨b1, b2⟩ := hC.acd x (List.mem_of_getElem? hx)
    unfold l_Mo_credit_5
    rw [hM.asn, if_neg (fun q => by have := (nI_le' (by omega) (by omega)).mp q; omega), ixI (show k < 64 by omega) (by omega), Option.bind_some, g2, g3, g4]
    have hw := wor_some (p := p) hx
    have hstep : ∀ w : Nat, w = z.wor p k → w ≤ mostN + 1 → ((if ((lg_cmp (lI (min (sumN (z.wor p) k) (mostN + 1) : Nat) + lI w) (Int64.ofNat 4000000000000000000)) : Int32) ≤ 0 then (some (lI (min (sumN (z.wor p) k) (mostN + 1) : Nat) + lI w)) else (some (Int64.ofNat 4000000000000000001))) : Option Int64) = some (lI (min (sumN (z.wor p) (k + 1)) (mostN + 1) : Nat)) := by
      intro w hw1 hw2
      have e : sumN (z.wor p) (k + 1) = sumN (z.wor p) k + w := by rw [hw1]; rfl
      rw [e, i64_most, i64_most1, lI_add, mostV] at *
      generalize sumN (z.wor p) k = X
      by_cases hc : X + w ≤ 4000000000000000000
      · rw [if_pos ((cmp_le0 (by omega) (by omega)).mpr (by omega))]
        congr 2; omega
      · rw [if_neg (fun q => hc (by have := (cmp_le0 (by omega) (by omega)).mp q; omega))]
        congr 2; omega
    have hnext := ih fu (k + 1) (by omega) (by omega) (by omega)
    by_cases hm : x.mny = true
    · rw [if_pos (b2i_ne0.mpr hm), Option.bind_some]
      have := hstep 0 (by rw [hw, if_pos hm]) (by omega)
      rw [show lI ((0 : Nat) : Int) = 0 from rfl, Int64.add_zero] at this
      rw [this, Option.bind_some, nI_add1]
      exact hnext
    · rw [if_neg (fun q => q (b2i_eq0.mpr (by simpa using hm)))]
      rw [show (64 : Int32) * nI p + nI k = nI (64 * p + k) by rw [show (64 : Int32) = nI 64 from rfl, nI_mul, nI_add'], ixI (show 64 * p + k < 16384 by omega) (by omega), Option.bind_some, hM.pl _ (by omega), pl_nat hC, d_worth _ _ _ _ (by have := hC.pl (64 * p + k); omega) b1 b2, Option.bind_some, Option.bind_some]
      rw [hstep _ (by rw [hw, if_neg hm]) (wth_le _ _ _), Option.bind_some, nI_add1]
      exact hnext
theorem d_credit {s : mS} {z : Z} (hM : MB s z) (hC : okC z) {p : Nat} (hp : p < 256) : d_Mo_credit (nI p) s = some (lI (min (z.crd p) (mostN + 1) : Nat)) := by
  unfold d_Mo_credit
  rw [show (0 : Int32) = nI 0 from rfl, show (0 : Int64) = lI (min (sumN (z.wor p) 0) (mostN + 1) : Nat) from rfl, d_credit_loop hM hC hp _ 100000 0 rfl (by have := hC.ast; omega) (by omega)]
  rfl
