/-! The reference's texts: their bytes. -/
def MXt (s : mS) (ts : List Txt) : Prop := MX s ts ∧ ∀ (t : Nat) (x : Txt), ts[t]? = some x → ∀ (j : Nat) (v : Int32), x.bs[j]? = some v → s.2.2.1 39 (123 * t + j) = v
theorem MXt.x {ki kl ka kb : List Nat} {s s' : mS} {ts : List Txt} (h : MXt s ts) (w : mX ki kl ka kb s s') (h1 : 30 ∉ ki) (h2 : 39 ∉ ka ∧ 40 ∉ ka ∧ 41 ∉ ka) (h3 : 42 ∉ kb) : MXt s' ts := by
  obtain ⟨⟨a1, a2⟩, a3⟩ := h
  refine ⟨⟨by rw [w.1 30 h1]; exact a1, fun j t ht => ?_⟩, fun t x hx j v hv => by rw [w.2.2.1 39 h2.1]; exact a3 t x hx j v hv⟩
  rw [w.2.2.1 41 h2.2.2, w.2.2.2 42 h3, w.2.2.1 40 h2.2.1]
  exact a2 j t ht
theorem d_very_loop {s : mS} {t : Nat} {bs ms : List Int32} (ht : t < 2000) (hbs : ∀ (j : Nat) (v : Int32), bs[j]? = some v → s.2.2.1 39 (123 * t + j) = v) (hms : ∀ (j : Nat) (v : Int32), ms[j]? = some v → s.2.2.1 24 j = v) (hl : bs.length = ms.length) (hm : ms.length ≤ 123) (h3 : s.1 3 = nI ms.length) : ∀ (d fu j : Nat), ms.length - j = d → d < fu → j ≤ ms.length → l_Mo_isVery_21 fu (nI t) 1 (nI j) s = some (b2i (decide (bs.drop j = ms.drop j))) := by
  intro d
  induction d with
  | zero =>
    intro fu j hd hf hj
    obtain ⟨fu, rfl⟩ : ∃ f, fu = f + 1 := ⟨fu - 1, by omega⟩
    unfold l_Mo_isVery_21
    rw [h3, if_pos (nI_le0 (by omega) (by omega) (by omega)), List.drop_of_length_le (by omega), List.drop_of_length_le (by omega)]; rfl
  | succ d ih =>
    intro fu j hd hf hj
    obtain ⟨fu, rfl⟩ : ∃ f, fu = f + 1 := ⟨fu - 1, by omega⟩
    obtain ⟨v, hv⟩ := get_lt (ks := bs) (j := j) (by omega)
    obtain ⟨m, hm1⟩ := get_lt (ks := ms) (j := j) (by omega)
    have IH := ih fu (j + 1) (by omega) (by omega) (by omega)
    have e1 : (123 : Int32) * nI t + nI j = nI (123 * t + j) := by
      rw [show (123 : Int32) = nI 123 from rfl, nI_mul, nI_add']
    unfold l_Mo_isVery_21
    rw [h3, if_neg (nI_ngt (by omega) (by omega) (by omega)), if_neg (by decide), e1, ix_N (by omega) (by omega), Option.bind_some, ix_N (by omega) (by omega), Option.bind_some, hbs j v hv, hms j m hm1, nI_add1, drop_cons hv, drop_cons hm1]
    by_cases c : v = m
    · rw [if_neg (fun q => q c), Option.bind_some, IH]
      by_cases c2 : bs.drop (j + 1) = ms.drop (j + 1)
      · rw [decide_eq_true c2, decide_eq_true (by rw [c, c2])]
      · rw [decide_eq_false c2, decide_eq_false (fun q => c2 (by injection q))]
    · rw [if_pos c, Option.bind_some, decide_eq_false (fun q => c (by injection q))]
      obtain ⟨fu, rfl⟩ : ∃ f, fu = f + 1 := ⟨fu - 1, by omega⟩
      unfold l_Mo_isVery_21
      rw [h3]
      by_cases c3 : nI ms.length ≤ nI (j + 1)
      · rw [if_pos c3]; rfl
      · rw [if_neg c3, if_pos rfl]; rfl
theorem d_very {s : mS} {ts : List Txt} (h : MXt s ts) (hL : ts.length ≤ 2000) {t : Nat} {x : Txt} (hx : ts[t]? = some x) (hxl : x.bs.length ≤ 123) {ms : List Int32} (hms : ∀ (j : Nat) (v : Int32), ms[j]? = some v → s.2.2.1 24 j = v) (hm : ms.length ≤ 123) (h3 : s.1 3 = nI ms.length) : d_Mo_isVery (nI t) s = some (b2i (decide (x.bs = ms))) := by
  obtain ⟨⟨a1, a2⟩, a3⟩ := h
  have ht := get_lt' hx
  have r3 := (a2 t x hx).2.2
  unfold d_Mo_isVery
  rw [ix_N (by omega) (by omega), Option.bind_some, r3, h3]
  by_cases c : x.bs.length = ms.length
  · rw [if_neg (show ¬ ¬ nI x.bs.length = nI ms.length from fun q => q (by rw [c])), Option.bind_some]
    have := d_very_loop (s := s) (t := t) (by omega) (a3 t x hx) hms c hm h3 _ 100000 0 rfl (by omega) (by omega)
    rw [List.drop_zero, List.drop_zero] at this
    have this' : l_Mo_isVery_21 100000 (nI t) 1 0 s = some (b2i (decide (x.bs = ms))) := this
    rw [this', Option.bind_some]
    cases decide (x.bs = ms)
    · rfl
    · rfl
  · rw [if_pos (show ¬ nI x.bs.length = nI ms.length from fun q => c (nI_inj (by omega) (by omega) q)), Option.bind_some, decide_eq_false (fun q => c (by rw [q]))]
    have : l_Mo_isVery_21 100000 (nI t) 0 0 s = some 0 := by
      show l_Mo_isVery_21 (99999 + 1) (nI t) 0 0 s = some 0
      unfold l_Mo_isVery_21
      by_cases c3 : s.1 3 ≤ 0
      · rw [if_pos c3]
      · rw [if_neg c3, if_pos rfl]
    rw [this]; rfl
theorem bn36 : ∀ z : Fin 36, am_bn 2 (nI (chr36 z.val)) = nI (chr36 z.val) := by decide +kernel
theorem d_keep_loop {c : Nat} {M : List Nat} (h36 : is36 M) (hm : M.length ≤ 123) (hc : c < 2000) : ∀ (d fu j : Nat) (s : mS), M.length - j = d → d < fu → j ≤ M.length → TXT (s.2.2.1 24) M.length M → s.1 3 = nI M.length → s.1 30 = nI c → ∃ s', l_Mo_keep_2 fu (nI j) s = some s' ∧ mX [] [] [39] [] s s' ∧ (∀ q, s'.2.2.1 39 q = if 123 * c + j ≤ q ∧ q < 123 * c + M.length then nI (chr36 (M.getD (q - 123 * c) 0)) else s.2.2.1 39 q) := by
  intro d
  induction d with
  | zero =>
    intro fu j s hd hf hj hT h3 h30
    obtain ⟨fu, rfl⟩ : ∃ f, fu = f + 1 := ⟨fu - 1, by omega⟩
    unfold l_Mo_keep_2
    exact ⟨s, by rw [h3, if_pos (nI_le0 (by omega) (by omega) (by omega))], mX.rf, fun q => by rw [if_neg (by omega)]⟩
  | succ d ih =>
    intro fu j s hd hf hj hT h3 h30
    obtain ⟨fu, rfl⟩ : ∃ f, fu = f + 1 := ⟨fu - 1, by omega⟩
    obtain ⟨x, hx⟩ := get_lt (ks := M) (j := j) (by omega)
    have hx36 := h36 x (List.mem_of_getElem? hx)
    have e1 : (123 : Int32) * nI c + nI j = nI (123 * c + j) := by
      rw [show (123 : Int32) = nI 123 from rfl, nI_mul, nI_add']
    have e2 : s.2.2.1 24 j = nI (chr36 x) := hT.2.2 j x hx
    obtain ⟨s1, hs1⟩ : ∃ s1, s1 = mA s 39 (123 * c + j) (nI (chr36 x)) := ⟨_, rfl⟩
    have x1 : mX [] [] [39] [] s s1 := by rw [hs1]; exact mX.A mX.rf (by decide)
    have a39 : ∀ q, s1.2.2.1 39 q = if q = 123 * c + j then nI (chr36 x) else s.2.2.1 39 q := fun q => by
      rw [hs1]
      show va_up s.2.2.1 39 (upd (s.2.2.1 39) (123 * c + j) (nI (chr36 x))) 39 q = _
      simp [va_up, upd]
    obtain ⟨s', r1, r2, r3⟩ := ih fu (j + 1) s1 (by omega) (by omega) (by omega) (by rw [x1.2.2.1 24 (by decide)]; exact hT) (by rw [x1.1 3 (by decide)]; exact h3) (by rw [x1.1 30 (by decide)]; exact h30)
    refine ⟨s', ?_, x1.tr r2, fun q => ?_⟩
    · unfold l_Mo_keep_2
      rw [h3, if_neg (nI_ngt (by omega) (by omega) (by omega)), ix_N (by omega) (by omega), Option.bind_some, h30, e1, ix_N (by omega) (by omega), Option.bind_some, e2, bn36 ⟨x, hx36⟩, ← hs1, nI_add1]
      exact r1
    · rw [r3 q, a39 q]
      by_cases c1 : q = 123 * c + j
      · rw [if_neg (by omega), if_pos c1, if_pos (by omega), show q - 123 * c = j by omega, List.getD_eq_getElem?_getD, hx]; rfl
      · rw [if_neg c1]
        by_cases c2 : 123 * c + (j + 1) ≤ q ∧ q < 123 * c + M.length
        · rw [if_pos c2, if_pos (by omega)]
        · rw [if_neg c2, if_neg (by omega)]
theorem d_keep {s : mS} {ts : List Txt} (h : MXt s ts) (hok : ∀ t ∈ ts, t.bs.length ≤ 123) {M : List Nat} (hT : TXT (s.2.2.1 24) M.length M) (hm : M.length ≤ 123) (h15 : 15 ≤ M.length) (hL : ts.length < 2000) {w : Nat} (h3 : s.1 3 = nI M.length) (h5 : s.1 5 = nI w) : ∃ s', d_Mo_keep s = some s' ∧ MXt s' (ts ++ [mkTxt w (sl M 7 8) (byt M)]) ∧ mX [30] [] [39, 40, 41] [42] s s' := by
  obtain ⟨⟨a1, a2⟩, a3⟩ := h
  obtain ⟨s1, r1, r2, r3⟩ := d_keep_loop (c := ts.length) hT.2.1 hm hL _ 100000 0 s rfl (by omega) (by omega) hT h3 a1
  obtain ⟨s2, hs2⟩ : ∃ s2, s2 = mA (mA s1 40 ts.length (nI M.length)) 41 ts.length (nI w) := ⟨_, rfl⟩
  have x2 : mX [] [] [40, 41] [] s1 s2 := by rw [hs2]; exact mX.A (mX.A mX.rf (by decide)) (by decide)
  have hT2 : TXT (s2.2.2.1 24) M.length M := by rw [x2.2.2.1 24 (by decide), r2.2.2.1 24 (by decide)]; exact hT
  have hp : d_Mo_packed 7 8 s2 = some (lI (b256 (sl M 7 8) : Nat)) := d_pck hT2 (by omega) 7 8 (by omega) (by omega)
  obtain ⟨s', hs'⟩ : ∃ s', s' = mI (mB s2 42 ts.length (lI (b256 (sl M 7 8) : Nat))) 30 (nI (ts.length + 1)) := ⟨_, rfl⟩
  have x3 : mX [30] [] [] [42] s2 s' := by rw [hs']; exact mX.I (mX.B mX.rf (by decide)) (by decide)
  have q40 : ∀ j, s'.2.2.1 40 j = if j = ts.length then nI M.length else s.2.2.1 40 j := fun j => by
    rw [x3.2.2.1 40 (by decide), ← r2.2.2.1 40 (by decide), hs2]
    simp [mA, va_up, upd]
  have q41 : ∀ j, s'.2.2.1 41 j = if j = ts.length then nI w else s.2.2.1 41 j := fun j => by
    rw [x3.2.2.1 41 (by decide), ← r2.2.2.1 41 (by decide), hs2]
    simp [mA, va_up, upd]
  have q42 : ∀ j, s'.2.2.2 42 j = if j = ts.length then lI (b256 (sl M 7 8) : Nat) else s.2.2.2 42 j := fun j => by
    rw [hs', ← r2.2.2.2 42 (by decide), ← x2.2.2.2 42 (by decide)]
    simp [mI, mB, va_up, vp_updL]
  have q39 : s'.2.2.1 39 = s1.2.2.1 39 := by rw [x3.2.2.1 39 (by decide), x2.2.2.1 39 (by decide)]
  refine ⟨s', ?_, ⟨⟨?_, fun j t ht => ?_⟩, fun t x hx j v hv => ?_⟩, ?_⟩
  · unfold d_Mo_keep
    have r1' : l_Mo_keep_2 100000 0 s = some s1 := r1
    rw [r1', Option.bind_some, r2.1 30 (by decide), a1, ix_N (by omega) (by omega), Option.bind_some, r2.1 3 (by decide), h3, r2.1 5 (by decide), h5, ← hs2, hp, Option.bind_some, nI_add1, ← hs']
  · rw [hs', List.length_append]
    simp [mI, va_up]
  · rw [q40, q41, q42]
    by_cases hj : j < ts.length
    · rw [if_neg (by omega), if_neg (by omega), if_neg (by omega)]
      rw [List.getElem?_append_left hj] at ht
      exact a2 j t ht
    · have hj2 : j = ts.length := by
        have := get_lt' ht
        rw [List.length_append, List.length_singleton] at this
        omega
      rw [hj2, List.getElem?_append_right (Nat.le_refl _), Nat.sub_self] at ht
      cases ht
      rw [if_pos hj2, if_pos hj2, if_pos hj2]
      refine ⟨rfl, rfl, ?_⟩
      show _ = nI (byt M).length
      rw [byt_len]
  · rw [q39]
    by_cases hj : t < ts.length
    · rw [List.getElem?_append_left hj] at hx
      have h1 := hok x (List.mem_of_getElem? hx)
      have h2 := get_lt' hv
      rw [r3, if_neg (by omega)]
      exact a3 t x hx j v hv
    · have hj2 : t = ts.length := by
        have := get_lt' hx
        rw [List.length_append, List.length_singleton] at this
        omega
      rw [hj2, List.getElem?_append_right (Nat.le_refl _), Nat.sub_self] at hx
      cases hx
      have hv' : (byt M)[j]? = some v := hv
      have h2 := get_lt' hv'
      rw [byt_len] at h2
      rw [r3, if_pos (by omega), hj2, show 123 * ts.length + j - 123 * ts.length = j by omega]
      obtain ⟨y, hy⟩ := get_lt (ks := M) (j := j) h2
      unfold byt at hv'
      rw [List.getElem?_map, hy] at hv'
      cases hv'
      rw [List.getD_eq_getElem?_getD, hy]; rfl
  · refine (r2.mono (by simp) (by simp) (by simp) (by simp)).tr ((x2.mono (by simp) (by simp) (by simp) (by simp)).tr (x3.mono (by simp) (by simp) (by simp) (by simp)))
