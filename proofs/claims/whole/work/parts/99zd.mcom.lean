/-! The reference: an instruction comes. -/
/-- the legs of a message, as the books find them -/
def LR (z : Z) (M : List Nat) (ls : List Leg) : Prop := ∀ (t : Nat) (l : Leg), ls[t]? = some l → z.fm (sl M (17 + 26 * t) 4) = some l.f ∧ z.fm (sl M (17 + 26 * t + 4) 4) = some l.t ∧ z.fa (sl M (17 + 26 * t + 8) 3) = some l.a ∧ isD (sl M (17 + 26 * t + 11) 15) = true ∧ num (sl M (17 + 26 * t + 11) 15) = l.v
theorem d_comes_loop {n : Nat} {z : Z} (hO : okZ n z) {N : Nat} {M : List Nat} (hN : N ≤ 400) {k w : Nat} {ls : List Leg} (hk : k < 250) (hl : ls.length ≤ 4) (hlN : 17 + 26 * ls.length ≤ N) (hR : LR z M ls) (hw : w < 256) (hf : ∀ l ∈ ls, l.f < 256) : ∀ (d fu j : Nat) (s : mS), ls.length - j = d → d < fu → j ≤ ls.length → TXT (s.2.2.1 24) N M → MB s z → s.1 5 = nI w → s.2.2.1 45 k = nI ls.length → (∀ (t : Nat) (l : Leg), t < j → ls[t]? = some l → s.2.2.1 50 (4 * k + t) = nI l.f ∧ s.2.2.1 51 (4 * k + t) = nI l.t ∧ s.2.2.1 52 (4 * k + t) = nI l.a ∧ s.2.2.2 53 (4 * k + t) = lI l.v ∧ s.2.2.1 54 (4 * k + t) = b2i ([w].contains l.f)) → ∃ s', l_Mo_comes_94 fu (nI k) (nI j) s = some s' ∧ (∀ (t : Nat) (l : Leg), ls[t]? = some l → s'.2.2.1 50 (4 * k + t) = nI l.f ∧ s'.2.2.1 51 (4 * k + t) = nI l.t ∧ s'.2.2.1 52 (4 * k + t) = nI l.a ∧ s'.2.2.2 53 (4 * k + t) = lI l.v ∧ s'.2.2.1 54 (4 * k + t) = b2i ([w].contains l.f)) ∧ (∀ q, (∀ t, t < 4 → q ≠ 4 * k + t) → (∀ a ∈ [50, 51, 52, 54], s'.2.2.1 a q = s.2.2.1 a q) ∧ s'.2.2.2 53 q = s.2.2.2 53 q) ∧ mX [] [] [50, 51, 52, 54] [53] s s' := by
  have hm := hO.mem
  intro d
  induction d with
  | zero =>
    intro fu j s hd hf' hj hT hB h5 h45 hr
    obtain ⟨fu, rfl⟩ : ∃ f, fu = f + 1 := ⟨fu - 1, by omega⟩
    refine ⟨s, ?_, fun t l ht => hr t l (by have := get_lt' ht; omega) ht, fun _ _ => ⟨fun _ _ => rfl, rfl⟩, mX.rf⟩
    unfold l_Mo_comes_94
    rw [ix_N (by omega) (by omega), Option.bind_some, h45, if_pos (nI_le0 (by omega) (by omega) (by omega))]
  | succ d ih =>
    intro fu j s hd hf' hj hT hB h5 h45 hr
    obtain ⟨fu, rfl⟩ : ∃ f, fu = f + 1 := ⟨fu - 1, by omega⟩
    obtain ⟨l, hlj⟩ := get_lt (ks := ls) (j := j) (by omega)
    have hlf := hf l (List.mem_of_getElem? hlj)
    obtain ⟨r1, r2, r3, r4, r5⟩ := hR j l hlj
    have i0 : 4 * nI k + nI j = nI (4 * k + j) := by rw [show (4 : Int32) = nI 4 from rfl, nI_mul, nI_add']
    have i1 : 17 + 26 * nI j = nI (17 + 26 * j) := by rw [show (26 : Int32) = nI 26 from rfl, nI_mul, show (17 : Int32) = nI 17 from rfl, nI_add']
    have i2 : nI (17 + 26 * j) + 4 = nI (17 + 26 * j + 4) := nI_add' _ 4
    have i3 : nI (17 + 26 * j) + 8 = nI (17 + 26 * j + 8) := nI_add' _ 8
    have i4 : nI (17 + 26 * j) + 11 = nI (17 + 26 * j + 11) := nI_add' _ 11
    -- the states
    obtain ⟨s1, hs1⟩ : ∃ s1, s1 = mA s 50 (4 * k + j) (nI l.f) := ⟨_, rfl⟩
    obtain ⟨s2, hs2⟩ : ∃ s2, s2 = mA s1 51 (4 * k + j) (nI l.t) := ⟨_, rfl⟩
    obtain ⟨s3, hs3⟩ : ∃ s3, s3 = mA s2 52 (4 * k + j) (nI l.a) := ⟨_, rfl⟩
    obtain ⟨s4, hs4⟩ : ∃ s4, s4 = mA (mB s3 53 (4 * k + j) (lI l.v)) 54 (4 * k + j) (b2i ([w].contains l.f)) := ⟨_, rfl⟩
    have w1 : mX [] [] [50, 51, 52, 54] [53] s s1 := by rw [hs1]; exact mX.rf.A (by decide)
    have w2 : mX [] [] [50, 51, 52, 54] [53] s s2 := by rw [hs2]; exact w1.A (by decide)
    have w3 : mX [] [] [50, 51, 52, 54] [53] s s3 := by rw [hs3]; exact w2.A (by decide)
    have w4 : mX [] [] [50, 51, 52, 54] [53] s s4 := by rw [hs4]; exact (w3.B (by decide)).A (by decide)
    have T' : ∀ {s' : mS}, mX [] [] [50, 51, 52, 54] [53] s s' → TXT (s'.2.2.1 24) N M := fun {s'} w => by rw [w.2.2.1 24 (by decide)]; exact hT
    have B' : ∀ {s' : mS}, mX [] [] [50, 51, 52, 54] [53] s s' → MB s' z := fun {s'} w => hB.x w (by decide) (by decide) (by decide)
    have d1 := d_mem hT hN hB hm.2 hO.cod (17 + 26 * j) (by omega)
    have d2 := d_mem (T' w1) hN (B' w1) hm.2 hO.cod (17 + 26 * j + 4) (by omega)
    have d3 := d_ast (T' w2) hN (B' w2) hO.ast (fun x hx => ⟨(hO.acd x hx).1, (hO.acd x hx).2.1⟩) (17 + 26 * j + 8) (by omega)
    have d4 := d_nmb (T' w3) hN (17 + 26 * j + 11) 15 (by omega) r4
    rw [r1] at d1
    rw [r2] at d2
    rw [r3] at d3
    rw [r5] at d4
    have d1' : d_Mo_memberAt (nI (17 + 26 * j)) s = some (nI l.f) := d1
    have d2' : d_Mo_memberAt (nI (17 + 26 * j + 4)) s1 = some (nI l.t) := d2
    have d3' : d_Mo_assetAt (nI (17 + 26 * j + 8)) s2 = some (nI l.a) := d3
    have d4' : d_Mo_number (nI (17 + 26 * j + 11)) 15 s3 = some (lI l.v) := d4
    have e50 : s1.2.2.1 50 (4 * k + j) = nI l.f := by rw [hs1]; exact (mA_at _ _ _ _ _).trans (if_pos rfl)
    have hun : l_Mo_comes_94 (fu + 1) (nI k) (nI j) s = l_Mo_comes_94 fu (nI k) (nI (j + 1)) s4 := by
      conv => lhs; unfold l_Mo_comes_94
      rw [ix_N (by omega) (by omega), Option.bind_some, h45, if_neg (nI_ngt (by omega) (by omega) (by omega)), i0, i1, i2, i3, i4, d1', Option.bind_some, ix_N (by omega) (by omega), Option.bind_some, ← hs1, d2', Option.bind_some, ← hs2, d3', Option.bind_some, ← hs3, d4', Option.bind_some, e50, h5, nI_add1, hs4]
      by_cases c : l.f = w
      · rw [if_neg (fun q => q (by rw [c])), Option.bind_some, show [w].contains l.f = true by rw [c]; simp]; rfl
      · rw [if_pos (fun q => c (nI_inj (by omega) (by omega) q)), Option.bind_some, show [w].contains l.f = false by simp [c]]; rfl
    rw [hun]
    have f50 : ∀ q, s4.2.2.1 50 q = if q = 4 * k + j then nI l.f else s.2.2.1 50 q := fun q => by
      rw [hs4, mA_ne (by decide), hs3]
      show (mA s2 52 (4 * k + j) (nI l.a)).2.2.1 50 q = _
      rw [mA_ne (by decide), hs2, mA_ne (by decide), hs1, mA_at]
    have f51 : ∀ q, s4.2.2.1 51 q = if q = 4 * k + j then nI l.t else s.2.2.1 51 q := fun q => by
      rw [hs4, mA_ne (by decide), hs3]
      show (mA s2 52 (4 * k + j) (nI l.a)).2.2.1 51 q = _
      rw [mA_ne (by decide), hs2, mA_at, hs1, mA_ne (by decide)]
    have f52 : ∀ q, s4.2.2.1 52 q = if q = 4 * k + j then nI l.a else s.2.2.1 52 q := fun q => by
      rw [hs4, mA_ne (by decide), hs3]
      show (mA s2 52 (4 * k + j) (nI l.a)).2.2.1 52 q = _
      rw [mA_at, hs2, mA_ne (by decide), hs1, mA_ne (by decide)]
    have f53 : ∀ q, s4.2.2.2 53 q = if q = 4 * k + j then lI l.v else s.2.2.2 53 q := fun q => by
      rw [hs4]
      show (mB s3 53 (4 * k + j) (lI l.v)).2.2.2 53 q = _
      rw [mB_at, hs3, hs2, hs1]; rfl
    have f54 : ∀ q, s4.2.2.1 54 q = if q = 4 * k + j then b2i ([w].contains l.f) else s.2.2.1 54 q := fun q => by
      rw [hs4, mA_at, hs3]
      show (if q = 4 * k + j then _ else (mA s2 52 (4 * k + j) (nI l.a)).2.2.1 54 q) = _
      rw [mA_ne (by decide), hs2, mA_ne (by decide), hs1, mA_ne (by decide)]
    obtain ⟨s', a1, a2, a3, a4⟩ := ih fu (j + 1) s4 (by omega) (by omega) (by omega) (T' w4) (B' w4) ((w4.1 5 (by simp)).trans h5) ((w4.eA _ (by decide) _).trans h45) (fun t l' ht hlt => by
      rw [f50, f51, f52, f53, f54]
      by_cases c : t = j
      · subst c
        rw [hlj] at hlt; cases hlt
        rw [if_pos rfl, if_pos rfl, if_pos rfl, if_pos rfl, if_pos rfl]
        exact ⟨rfl, rfl, rfl, rfl, rfl⟩
      · have hne : ¬ 4 * k + t = 4 * k + j := by omega
        rw [if_neg hne, if_neg hne, if_neg hne, if_neg hne, if_neg hne]
        exact hr t l' (by omega) hlt)
    refine ⟨s', a1, a2, fun q hq => ?_, w4.tr a4⟩
    have hne := hq j (by omega)
    obtain ⟨b1, b2⟩ := a3 q hq
    refine ⟨fun a ha => ?_, by rw [b2, f53, if_neg hne]⟩
    rw [b1 a ha]
    have : a = 50 ∨ a = 51 ∨ a = 52 ∨ a = 54 := by simpa using ha
    rcases this with rfl | rfl | rfl | rfl
    · rw [f50, if_neg hne]
    · rw [f51, if_neg hne]
    · rw [f52, if_neg hne]
    · rw [f54, if_neg hne]
