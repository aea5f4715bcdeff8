/-! The reference drops one. -/
theorem bn_b2i (b : Bool) : am_bn 3 (b2i b) = b2i b := by cases b <;> decide
def CP (s s' : mS) (v t : Nat) : Prop := (∀ q, s'.2.2.1 50 q = if 4 * v ≤ q ∧ q < 4 * v + t then s.2.2.1 50 (q + 4) else s.2.2.1 50 q) ∧ (∀ q, s'.2.2.1 51 q = if 4 * v ≤ q ∧ q < 4 * v + t then s.2.2.1 51 (q + 4) else s.2.2.1 51 q) ∧ (∀ q, s'.2.2.1 52 q = if 4 * v ≤ q ∧ q < 4 * v + t then s.2.2.1 52 (q + 4) else s.2.2.1 52 q) ∧ (∀ q, s'.2.2.1 54 q = if 4 * v ≤ q ∧ q < 4 * v + t then am_bn 3 (s.2.2.1 54 (q + 4)) else s.2.2.1 54 q) ∧ (∀ q, s'.2.2.2 53 q = if 4 * v ≤ q ∧ q < 4 * v + t then s.2.2.2 53 (q + 4) else s.2.2.2 53 q)
theorem CP.a0 {s s' : mS} {v t : Nat} (h : CP s s' v t) : ∀ q, s'.2.2.1 50 q = if 4 * v ≤ q ∧ q < 4 * v + t then s.2.2.1 50 (q + 4) else s.2.2.1 50 q := h.1
theorem CP.a1 {s s' : mS} {v t : Nat} (h : CP s s' v t) : ∀ q, s'.2.2.1 51 q = if 4 * v ≤ q ∧ q < 4 * v + t then s.2.2.1 51 (q + 4) else s.2.2.1 51 q := h.2.1
theorem CP.a2 {s s' : mS} {v t : Nat} (h : CP s s' v t) : ∀ q, s'.2.2.1 52 q = if 4 * v ≤ q ∧ q < 4 * v + t then s.2.2.1 52 (q + 4) else s.2.2.1 52 q := h.2.2.1
theorem CP.a4 {s s' : mS} {v t : Nat} (h : CP s s' v t) : ∀ q, s'.2.2.1 54 q = if 4 * v ≤ q ∧ q < 4 * v + t then am_bn 3 (s.2.2.1 54 (q + 4)) else s.2.2.1 54 q := h.2.2.2.1
theorem CP.b3 {s s' : mS} {v t : Nat} (h : CP s s' v t) : ∀ q, s'.2.2.2 53 q = if 4 * v ≤ q ∧ q < 4 * v + t then s.2.2.2 53 (q + 4) else s.2.2.2 53 q := h.2.2.2.2
theorem d_drop_in {v : Nat} (hv : v < 249) (s0 : mS) : ∀ (d fu t : Nat) (s : mS), 4 - t = d → d < fu → t ≤ 4 → CP s0 s v t → ∃ s', l_Mo_drop_120 fu (nI v) (nI t) s = some s' ∧ CP s0 s' v 4 ∧ mX [] [] [50, 51, 52, 54] [53] s s' := by
  intro d
  induction d with
  | zero =>
    intro fu t s hd hf ht hC
    obtain ⟨fu, rfl⟩ : ∃ m, fu = m + 1 := ⟨fu - 1, by omega⟩
    unfold l_Mo_drop_120
    rw [if_pos (show (4 : Int32) ≤ nI t from (nI_le' (a := 4) (by omega) (by omega)).mpr (by omega))]
    rw [show t = 4 by omega] at hC
    exact ⟨s, rfl, hC, mX.rf⟩
  | succ d ih =>
    intro fu t s hd hf ht hC
    obtain ⟨fu, rfl⟩ : ∃ m, fu = m + 1 := ⟨fu - 1, by omega⟩
    unfold l_Mo_drop_120
    rw [if_neg (fun q => by have := (nI_le' (a := 4) (by omega) (by omega)).mp q; omega), show (4 : Int32) * nI v + 4 + nI t = nI (4 * v + 4 + t) by rw [show (4 : Int32) = nI 4 from rfl, nI_mul, nI_add', nI_add'], ixI (show 4 * v + 4 + t < 1000 by omega) (by omega), Option.bind_some, show (4 : Int32) * nI v + nI t = nI (4 * v + t) by rw [show (4 : Int32) = nI 4 from rfl, nI_mul, nI_add'], ixI (show 4 * v + t < 1000 by omega) (by omega), Option.bind_some, nI_add1]
    have hsrc : ∀ (α : Type) (f g : Nat → α) (h : α → α), (∀ q, g q = if 4 * v ≤ q ∧ q < 4 * v + t then h (f (q + 4)) else f q) → g (4 * v + 4 + t) = f (4 * v + t + 4) := by
      intro α f g h w
      rw [w, if_neg (by omega)]
      congr 1; omega
    have stp : ∀ (α : Type) (f g : Nat → α) (h : α → α), (∀ q, g q = if 4 * v ≤ q ∧ q < 4 * v + t then h (f (q + 4)) else f q) → ∀ q, (if q = 4 * v + t then h (f (4 * v + t + 4)) else g q) = if 4 * v ≤ q ∧ q < 4 * v + (t + 1) then h (f (q + 4)) else f q := by
      intro α f g h w q
      by_cases e : q = 4 * v + t
      · rw [if_pos e, if_pos (by omega), e]
      · rw [if_neg e, w]
        by_cases e2 : 4 * v ≤ q ∧ q < 4 * v + t
        · rw [if_pos e2, if_pos (by omega)]
        · rw [if_neg e2, if_neg (by omega)]
    obtain ⟨c0, c1, c2, c4, c3⟩ := hC
    obtain ⟨s', r1, r2, r3⟩ := ih fu (t + 1) (mA (mB (mA (mA (mA s 50 (4 * v + t) (s.2.2.1 50 (4 * v + 4 + t))) 51 (4 * v + t) (s.2.2.1 51 (4 * v + 4 + t))) 52 (4 * v + t) (s.2.2.1 52 (4 * v + 4 + t))) 53 (4 * v + t) (s.2.2.2 53 (4 * v + 4 + t))) 54 (4 * v + t) (am_bn 3 (s.2.2.1 54 (4 * v + 4 + t)))) (by omega) (by omega) (by omega) ⟨fun q => by
        rw [mA_ne (by decide)]
        show (mA (mA (mA s 50 (4 * v + t) (s.2.2.1 50 (4 * v + 4 + t))) 51 (4 * v + t) (s.2.2.1 51 (4 * v + 4 + t))) 52 (4 * v + t) (s.2.2.1 52 (4 * v + 4 + t))).2.2.1 50 q = _
        rw [mA_ne (by decide), mA_ne (by decide), mA_at, hsrc _ _ _ id c0]
        exact stp _ _ _ id c0 q, fun q => by
        rw [mA_ne (by decide)]
        show (mA (mA (mA s 50 (4 * v + t) (s.2.2.1 50 (4 * v + 4 + t))) 51 (4 * v + t) (s.2.2.1 51 (4 * v + 4 + t))) 52 (4 * v + t) (s.2.2.1 52 (4 * v + 4 + t))).2.2.1 51 q = _
        rw [mA_ne (by decide), mA_at, mA_ne (by decide), hsrc _ _ _ id c1]
        exact stp _ _ _ id c1 q, fun q => by
        rw [mA_ne (by decide)]
        show (mA (mA (mA s 50 (4 * v + t) (s.2.2.1 50 (4 * v + 4 + t))) 51 (4 * v + t) (s.2.2.1 51 (4 * v + 4 + t))) 52 (4 * v + t) (s.2.2.1 52 (4 * v + 4 + t))).2.2.1 52 q = _
        rw [mA_at, mA_ne (by decide), mA_ne (by decide), hsrc _ _ _ id c2]
        exact stp _ _ _ id c2 q, fun q => by
        rw [mA_at]
        show (if q = 4 * v + t then _ else (mA (mA (mA s 50 (4 * v + t) (s.2.2.1 50 (4 * v + 4 + t))) 51 (4 * v + t) (s.2.2.1 51 (4 * v + 4 + t))) 52 (4 * v + t) (s.2.2.1 52 (4 * v + 4 + t))).2.2.1 54 q) = _
        rw [mA_ne (by decide), mA_ne (by decide), mA_ne (by decide), hsrc _ _ _ (am_bn 3) c4]
        exact stp _ _ _ (am_bn 3) c4 q, fun q => by
        show (mB (mA (mA (mA s 50 (4 * v + t) (s.2.2.1 50 (4 * v + 4 + t))) 51 (4 * v + t) (s.2.2.1 51 (4 * v + 4 + t))) 52 (4 * v + t) (s.2.2.1 52 (4 * v + 4 + t))) 53 (4 * v + t) (s.2.2.2 53 (4 * v + 4 + t))).2.2.2 53 q = _
        rw [mB_at, hsrc _ _ _ id c3]
        exact stp _ _ _ id c3 q⟩
    exact ⟨s', r1, r2, (((((mX.rf.A (by decide)).A (by decide)).A (by decide)).B (by decide)).A (by decide)).tr r3⟩
theorem CP.rf (s : mS) (v : Nat) : CP s s v 0 := ⟨fun q => by rw [if_neg (by omega)], fun q => by rw [if_neg (by omega)], fun q => by rw [if_neg (by omega)], fun q => by rw [if_neg (by omega)], fun q => by rw [if_neg (by omega)]⟩
abbrev kdA : List Nat := [43, 44, 45, 48, 49, 50, 51, 52, 54]
abbrev kdB : List Nat := [46, 47, 53]
theorem d_drop_loop {L : List Ins} {k : Nat} (hL : L.length ≤ 250) (hlg : ∀ i ∈ L, i.legs.length ≤ 4) (hk : k < L.length) (f0 : Nat → Int32) : ∀ (d fu v : Nat) (s : mS), L.length - 1 - v = d → d < fu → k ≤ v → v ≤ L.length - 1 → s.1 31 = nI (L.length - 1) → (∀ (j : Nat) (i : Ins), j < v → (L.eraseIdx k)[j]? = some i → MI s j i) → (∀ (j : Nat) (i : Ins), v < j → L[j]? = some i → MI s j i) → (∀ j, j < k → s.2.2.1 49 j = f0 j) → ∃ s', l_Mo_drop_12 fu (nI v) s = some s' ∧ (∀ (j : Nat) (i : Ins), (L.eraseIdx k)[j]? = some i → MI s' j i) ∧ (∀ j, j < k → s'.2.2.1 49 j = f0 j) ∧ mX [] [] kdA kdB s s' := by
  intro d
  induction d with
  | zero =>
    intro fu v s hd hf hkv hv hm h1 h2 h3
    obtain ⟨fu, rfl⟩ : ∃ m, fu = m + 1 := ⟨fu - 1, by omega⟩
    unfold l_Mo_drop_12
    rw [hm, if_pos ((nI_le' (by omega) (by omega)).mpr (by omega))]
    refine ⟨s, rfl, fun j i hj => h1 j i ?_ hj, h3, mX.rf⟩
    have := (List.getElem?_eq_some_iff.mp hj).1
    rw [List.length_eraseIdx, if_pos hk] at this
    omega
  | succ d ih =>
    intro fu v s hd hf hkv hv hm h1 h2 h3
    obtain ⟨fu, rfl⟩ : ∃ m, fu = m + 1 := ⟨fu - 1, by omega⟩
    obtain ⟨i, hi⟩ : ∃ i, L[v + 1]? = some i := ⟨_, List.getElem?_eq_getElem (show v + 1 < L.length by omega)⟩
    have hI := h2 (v + 1) i (by omega) hi
    have hleg := hlg i (List.mem_of_getElem? hi)
    unfold l_Mo_drop_12
    rw [hm, if_neg (fun q => by have := (nI_le' (by omega) (by omega)).mp q; omega), nI_add1, ixI (show v + 1 < 250 by omega) (by omega), Option.bind_some, ixI (show v < 250 by omega) (by omega), Option.bind_some]
    generalize hs1 : (mA (mA (mB (mB (mA (mA (mA s 43 v (s.2.2.1 43 (v + 1))) 44 v (s.2.2.1 44 (v + 1))) 45 v (s.2.2.1 45 (v + 1))) 46 v (s.2.2.2 46 (v + 1))) 47 v (s.2.2.2 47 (v + 1))) 48 v (am_bn 3 (s.2.2.1 48 (v + 1)))) 49 v (am_bn 3 (s.2.2.1 49 (v + 1)))) = s1
    have x1 : mX [] [] [43, 44, 45, 48, 49] [46, 47] s s1 := by
      rw [← hs1]
      exact (((((((mX.rf.A (by decide)).A (by decide)).A (by decide)).B (by decide)).B (by decide)).A (by decide)).A (by decide))
    have at43 : ∀ q, s1.2.2.1 43 q = if q = v then s.2.2.1 43 (v + 1) else s.2.2.1 43 q := fun q => by
      rw [← hs1, mA_ne (by decide), mA_ne (by decide)]
      show (mA (mA (mA s 43 v (s.2.2.1 43 (v + 1))) 44 v (s.2.2.1 44 (v + 1))) 45 v (s.2.2.1 45 (v + 1))).2.2.1 43 q = _
      rw [mA_ne (by decide), mA_ne (by decide), mA_at]
    have at44 : ∀ q, s1.2.2.1 44 q = if q = v then s.2.2.1 44 (v + 1) else s.2.2.1 44 q := fun q => by
      rw [← hs1, mA_ne (by decide), mA_ne (by decide)]
      show (mA (mA (mA s 43 v (s.2.2.1 43 (v + 1))) 44 v (s.2.2.1 44 (v + 1))) 45 v (s.2.2.1 45 (v + 1))).2.2.1 44 q = _
      rw [mA_ne (by decide), mA_at, mA_ne (by decide)]
    have at45 : ∀ q, s1.2.2.1 45 q = if q = v then s.2.2.1 45 (v + 1) else s.2.2.1 45 q := fun q => by
      rw [← hs1, mA_ne (by decide), mA_ne (by decide)]
      show (mA (mA (mA s 43 v (s.2.2.1 43 (v + 1))) 44 v (s.2.2.1 44 (v + 1))) 45 v (s.2.2.1 45 (v + 1))).2.2.1 45 q = _
      rw [mA_at, mA_ne (by decide), mA_ne (by decide)]
    have at48 : ∀ q, s1.2.2.1 48 q = if q = v then am_bn 3 (s.2.2.1 48 (v + 1)) else s.2.2.1 48 q := fun q => by
      rw [← hs1, mA_ne (by decide), mA_at]
      show (if q = v then _ else (mA (mA (mA s 43 v (s.2.2.1 43 (v + 1))) 44 v (s.2.2.1 44 (v + 1))) 45 v (s.2.2.1 45 (v + 1))).2.2.1 48 q) = _
      rw [mA_ne (by decide), mA_ne (by decide), mA_ne (by decide)]
    have at49 : ∀ q, s1.2.2.1 49 q = if q = v then am_bn 3 (s.2.2.1 49 (v + 1)) else s.2.2.1 49 q := fun q => by
      rw [← hs1, mA_at, mA_ne (by decide)]
      show (if q = v then _ else (mA (mA (mA s 43 v (s.2.2.1 43 (v + 1))) 44 v (s.2.2.1 44 (v + 1))) 45 v (s.2.2.1 45 (v + 1))).2.2.1 49 q) = _
      rw [mA_ne (by decide), mA_ne (by decide), mA_ne (by decide)]
    have at46 : ∀ q, s1.2.2.2 46 q = if q = v then s.2.2.2 46 (v + 1) else s.2.2.2 46 q := fun q => by
      rw [← hs1]
      show (mB (mB (mA (mA (mA s 43 v (s.2.2.1 43 (v + 1))) 44 v (s.2.2.1 44 (v + 1))) 45 v (s.2.2.1 45 (v + 1))) 46 v (s.2.2.2 46 (v + 1))) 47 v (s.2.2.2 47 (v + 1))).2.2.2 46 q = _
      rw [mB_ne (by decide), mB_at]; rfl
    have at47 : ∀ q, s1.2.2.2 47 q = if q = v then s.2.2.2 47 (v + 1) else s.2.2.2 47 q := fun q => by
      rw [← hs1]
      show (mB (mB (mA (mA (mA s 43 v (s.2.2.1 43 (v + 1))) 44 v (s.2.2.1 44 (v + 1))) 45 v (s.2.2.1 45 (v + 1))) 46 v (s.2.2.2 46 (v + 1))) 47 v (s.2.2.2 47 (v + 1))).2.2.2 47 q = _
      rw [mB_at, mB_ne (by decide)]; rfl
    obtain ⟨s2, e2, C2, x2⟩ := d_drop_in (v := v) (by omega) s1 _ 100000 0 s1 rfl (by omega) (by omega) (CP.rf s1 v)
    rw [show l_Mo_drop_120 100000 (nI v) 0 s1 = some s2 from e2, Option.bind_some]
    have x12 : mX [] [] kdA kdB s s2 := (x1.mono (by simp) (by simp) (by decide) (by decide)).tr (x2.mono (by simp) (by simp) (by decide) (by decide))
    have oth : ∀ (j : Nat) (i : Ins), j ≠ v → i.legs.length ≤ 4 → MI s j i → MI s2 j i := by
      intro j i hj hl4 h
      refine ⟨?_, ?_, ?_, ?_, ?_, ?_, fun t l ht => ?_⟩
      · rw [x2.eA 43 (by decide), at43, if_neg hj]; exact h.who
      · rw [x2.eA 44 (by decide), at44, if_neg hj]; exact h.pr
      · rw [x2.eA 45 (by decide), at45, if_neg hj]; exact h.len
      · rw [x2.eB 46 (by decide), at46, if_neg hj]; exact h.nm
      · rw [x2.eB 47 (by decide), at47, if_neg hj]; exact h.tn
      · rw [x2.eA 48 (by decide), at48, if_neg hj]; exact h.wt
      · have ht4 : t < 4 := by have := (List.getElem?_eq_some_iff.mp ht).1; omega
        obtain ⟨g1, g2, g3, g4, g5⟩ := h.lg t l ht
        have hne : ¬ (4 * v ≤ 4 * j + t ∧ 4 * j + t < 4 * v + 4) := by omega
        rw [C2.a0, C2.a1, C2.a2, C2.a4, C2.b3, if_neg hne, if_neg hne, if_neg hne, if_neg hne, if_neg hne, x1.eA 50 (by decide), x1.eA 51 (by decide), x1.eA 52 (by decide), x1.eA 54 (by decide), x1.eB 53 (by decide)]
        exact ⟨g1, g2, g3, g4, g5⟩
    have new : MI s2 v i := by
      refine ⟨?_, ?_, ?_, ?_, ?_, ?_, fun t l ht => ?_⟩
      · rw [x2.eA 43 (by decide), at43, if_pos rfl]; exact hI.who
      · rw [x2.eA 44 (by decide), at44, if_pos rfl]; exact hI.pr
      · rw [x2.eA 45 (by decide), at45, if_pos rfl]; exact hI.len
      · rw [x2.eB 46 (by decide), at46, if_pos rfl]; exact hI.nm
      · rw [x2.eB 47 (by decide), at47, if_pos rfl]; exact hI.tn
      · rw [x2.eA 48 (by decide), at48, if_pos rfl, hI.wt, bn_b2i]
      · have ht4 : t < 4 := by have := (List.getElem?_eq_some_iff.mp ht).1; omega
        obtain ⟨g1, g2, g3, g4, g5⟩ := hI.lg t l ht
        have hpo : 4 * v ≤ 4 * v + t ∧ 4 * v + t < 4 * v + 4 := by omega
        have e4 : 4 * v + t + 4 = 4 * (v + 1) + t := by omega
        rw [C2.a0, C2.a1, C2.a2, C2.a4, C2.b3, if_pos hpo, if_pos hpo, if_pos hpo, if_pos hpo, if_pos hpo, e4, x1.eA 50 (by decide), x1.eA 51 (by decide), x1.eA 52 (by decide), x1.eA 54 (by decide), x1.eB 53 (by decide), g5, bn_b2i]
        exact ⟨g1, g2, g3, g4, rfl⟩
    obtain ⟨s', r1, r2, r3, r4⟩ := ih fu (v + 1) s2 (by omega) (by omega) (by omega) (by omega) ((x12.1 31 (by decide)).trans hm) (fun j i' hj he => by
        by_cases e : j = v
        · subst e
          rw [List.getElem?_eraseIdx, if_neg (by omega), hi] at he
          cases he; exact new
        · refine oth j i' e (hlg i' ?_) (h1 j i' (by omega) he)
          exact List.mem_of_mem_eraseIdx (List.mem_of_getElem? he)) (fun j i' hj he => oth j i' (by omega) (hlg i' (List.mem_of_getElem? he)) (h2 j i' (by omega) he)) (fun j hj => by
        rw [x2.eA 49 (by decide), at49, if_neg (by omega)]; exact h3 j hj)
    exact ⟨s', r1, r2, r3, x12.tr r4⟩
theorem d_drop {s : mS} {z : Z} (hQ : MQu s z) (hL : z.ins.length ≤ 250) (hlg : ∀ i ∈ z.ins, i.legs.length ≤ 4) {k : Nat} (hk : k < z.ins.length) : ∃ s', d_Mo_drop (nI k) s = some s' ∧ MQu s' (z.wIns (z.ins.eraseIdx k)) ∧ (∀ j, j < k → s'.2.2.1 49 j = s.2.2.1 49 j) ∧ mX [31] [] kdA kdB s s' := by
  unfold d_Mo_drop
  rw [hQ.many, show nI z.ins.length - 1 = nI (z.ins.length - 1) by rw [show (1 : Int32) = nI 1 from rfl, nI_sub' (by omega)]]
  have x1 : mX [31] [] kdA kdB s (mI s 31 (nI (z.ins.length - 1))) := mX.rf.I (by decide)
  have x0 : mX [31] [] [] [] s (mI s 31 (nI (z.ins.length - 1))) := mX.rf.I (by decide)
  have hin : ∀ (j : Nat) (i : Ins), z.ins[j]? = some i → MI (mI s 31 (nI (z.ins.length - 1))) j i := fun j i h => (hQ.ins j i h).x x0 (by decide) (by decide)
  obtain ⟨s', r1, r2, r3, r4⟩ := d_drop_loop hL hlg hk (s.2.2.1 49) _ 100000 k (mI s 31 (nI (z.ins.length - 1))) rfl (by omega) (Nat.le_refl _) (by omega) rfl (fun j i hj he => by
      rw [List.getElem?_eraseIdx, if_pos hj] at he
      exact hin j i he) (fun j i _ he => hin j i he) (fun j _ => rfl)
  rw [r1]
  refine ⟨s', rfl, ⟨?_, r2, ?_⟩, r3, x1.tr (r4.mono (by simp) (by simp) (by simp) (by simp))⟩
  · rw [r4.1 31 (by simp)]
    show nI (z.ins.length - 1) = nI (z.ins.eraseIdx k).length
    rw [List.length_eraseIdx, if_pos hk]
  · rw [r4.2.1 45 (by simp)]; exact hQ.turns
/-- by names -/
theorem erase_filter {L : List Ins} (h : L.Pairwise fun i j => ¬ (i.who = j.who ∧ i.nm = j.nm)) : ∀ {k : Nat} {i : Ins}, L[k]? = some i → L.eraseIdx k = L.filter fun j => !(sameK i j) := by
  induction L with
  | nil => intro k i hk; simp at hk
  | cons x L ih =>
    intro k i hk
    obtain ⟨h1, h2⟩ := List.pairwise_cons.mp h
    cases k with
    | zero =>
      cases hk
      rw [List.eraseIdx_cons_zero, List.filter_cons_of_neg (by simp [sameK])]
      symm
      rw [List.filter_eq_self]
      intro j hj
      have := h1 j hj
      simp [sameK, this]
    | succ k =>
      have hk' : L[k]? = some i := hk
      have := h1 i (List.mem_of_getElem? hk')
      rw [List.eraseIdx_cons_succ, ih h2 hk', List.filter_cons_of_pos]
      simp only [sameK]
      rw [decide_eq_false (fun q => this ⟨q.1.symm, q.2.symm⟩)]
      rfl
