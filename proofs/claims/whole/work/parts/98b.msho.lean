/-! The reference looks for a place that falls too low. -/
theorem sumC_app (fc : Option Nat) (C : Ins → Bool) (P : Nat) : ∀ (q r : List Ins), sumC fc C P (q ++ r) = sumC fc C P q + sumC fc C P r := by
  intro q r
  induction q with
  | nil => show sumC fc C P r = 0 + sumC fc C P r; omega
  | cons i q ih =>
    show _ + sumC fc C P (q ++ r) = (_ + sumC fc C P q) + sumC fc C P r
    rw [ih]; omega
theorem sumC_bnd {z : Z} (C : Ins → Bool) (P : Nat) : ∀ {q : List Ins}, (∀ i ∈ q, okN z 0 i) → -(4000000000000000 * (q.length : Int)) ≤ sumC z.fc C P q ∧ sumC z.fc C P q ≤ 4000000000000000 * (q.length : Int) := by
  intro q
  induction q with
  | nil => intro _; exact ⟨Int.le_refl _, Int.le_refl _⟩
  | cons i q ih =>
    intro h
    have h1 := (h i List.mem_cons_self).net P
    have h2 := ih fun j hj => h j (List.mem_cons_of_mem _ hj)
    have e : sumC z.fc C P (i :: q) = (if C i then i.net z.fc P else 0) + sumC z.fc C P q := rfl
    rw [e, List.length_cons]
    split <;> omega
theorem sumC_zero {fc : Option Nat} {C : Ins → Bool} {P : Nat} : ∀ {q : List Ins}, (∀ x ∈ q, C x = true → x.net fc P = 0) → sumC fc C P q = 0 := by
  intro q
  induction q with
  | nil => intro _; rfl
  | cons i q ih =>
    intro h
    have h1 := ih fun j hj => h j (List.mem_cons_of_mem _ hj)
    show (if C i then i.net fc P else 0) + sumC fc C P q = 0
    rw [h1]
    by_cases hc : C i = true
    · rw [if_pos hc, h i List.mem_cons_self hc]; rfl
    · rw [if_neg hc]; rfl
/-- sums at the places with floors -/
def SM (s : mS) (z : Z) (f : Nat → Int) (tl : List Nat) : Prop := (∀ P, P < 81920 → P ∈ tl → s.2.2.2 59 P = lI (f P)) ∧ (∀ P, P < 81920 → P ∉ tl → s.2.2.2 59 P = 0)
theorem SM.x {ki kl ka kb : List Nat} {s s' : mS} {z : Z} {f : Nat → Int} {tl : List Nat} (hM : SM s z f tl) (h : mX ki kl ka kb s s') (h2 : 59 ∉ kb) : SM s' z f tl := ⟨fun P a b => (h.eB _ h2 P).trans (hM.1 P a b), fun P a b => (h.eB _ h2 P).trans (hM.2 P a b)⟩
theorem d_short43 {z : Z} (hX : okX z) {k j0 : Nat} {i : Ins} (hN : okN z k i) (hj0 : j0 < 250) {ks : List Nat} (hks : ∀ P ∈ ks, P < 81920) (hkl : ks.length ≤ 16) (hnd : ks.Nodup) (v1 : Int32) (f : Nat → Int) : ∀ (d fu j : Nat) (s : mS) (tl : List Nat), MB s z → MI s k i → KS s ks → s.2.2.1 55 j0 = nI k → MT s tl → tl.Nodup → (∀ P ∈ tl, P < 81920) → tl.length + (ks.length - j) ≤ 4095 → SM s z (fun P => if P ∈ ks.take j then f P + i.net z.fc P else f P) tl → (∀ P, P ∈ ks → P ∉ tl → f P = 0) → ks.length - j = d → d < fu → j ≤ ks.length → ∃ s' tl', l_Mo_short0_43 fu v1 (nI j0) (nI ks.length) (nI j) s = some s' ∧ MT s' tl' ∧ tl'.Nodup ∧ (∀ P ∈ tl', P < 81920) ∧ tl'.length ≤ tl.length + (ks.length - j) ∧ (∀ P, P ∈ tl' ↔ P ∈ tl ∨ P ∈ ks.drop j) ∧ SM s' z (fun P => if P ∈ ks then f P + i.net z.fc P else f P) tl' ∧ mX [48] [] [56, 58] [59] s s' := by
  intro d
  induction d with
  | zero =>
    intro fu j s tl hB hI hK h55 hM htn hb hl hSM hf0 hd hf hj
    obtain ⟨fu, rfl⟩ : ∃ m, fu = m + 1 := ⟨fu - 1, by omega⟩
    unfold l_Mo_short0_43
    rw [if_pos ((nI_le' (by omega) (by omega)).mpr (by omega)), List.drop_eq_nil_of_le (by omega)]
    rw [List.take_of_length_le (by omega)] at hSM
    exact ⟨s, tl, rfl, hM, htn, hb, by omega, fun P => by simp, hSM, mX.rf⟩
  | succ d ih =>
    intro fu j s tl hB hI hK h55 hM htn hb hl hSM hf0 hd hf hj
    obtain ⟨fu, rfl⟩ : ∃ m, fu = m + 1 := ⟨fu - 1, by omega⟩
    have hjl : j < ks.length := by omega
    have hQ := List.getElem?_eq_getElem hjl
    generalize hg : ks[j] = Q at hQ
    have hQb := hks Q (List.mem_of_getElem? hQ)
    have hdr : ks.drop j = Q :: ks.drop (j + 1) := by rw [List.drop_eq_getElem_cons hjl, hg]
    have htk := take_snoc hQ
    have hnq : Q ∉ ks.take j := by
      have : (ks.take (j + 1)).Nodup := hnd.sublist (List.take_sublist _ _)
      rw [htk, List.nodup_append] at this
      intro hq
      exact this.2.2 Q hq Q (by simp) rfl
    have hmem : ∀ P, P ∈ ks.take (j + 1) ↔ P ∈ ks.take j ∨ P = Q := fun P => by rw [htk]; simp
    unfold l_Mo_short0_43
    rw [if_neg (fun q => by have := (nI_le' (by omega) (by omega)).mp q; omega), ixI (show j < 16 by omega) (by omega), Option.bind_some, hK j Q hQ]
    obtain ⟨s1, e1, M1, x1⟩ := d_touch hM (by omega) hQb
    have B1 := hB.x x1 (by decide) (by decide) (by decide)
    have I1 := hI.x x1 (by decide) (by decide)
    have l1 := len_addK tl Q
    rw [e1, Option.bind_some, x1.eA 57 (by decide), hK j Q hQ, ixI hQb (by omega), Option.bind_some, ixI hj0 (by omega), Option.bind_some, x1.eA 55 (by decide), h55, d_net B1 hX I1 hN.lt hN.lg hN.len hQb, Option.bind_some, nI_add1, x1.eB 59 (by decide)]
    have hold : s.2.2.2 59 Q = lI (f Q) := by
      by_cases hq : Q ∈ tl
      · have := hSM.1 Q hQb hq
        simp only [hnq, if_false] at this
        exact this
      · rw [hSM.2 Q hQb hq, hf0 Q (List.mem_of_getElem? hQ) hq]; rfl
    rw [hold, lI_add]
    have x2 : mX [48] [] [56, 58] [59] s (mB s1 59 Q (lI (f Q + i.net z.fc Q))) := (x1.mono (by simp) (by simp) (by simp) (by simp)).B (by decide)
    have x2' : mX [] [] [] [59] s1 (mB s1 59 Q (lI (f Q + i.net z.fc Q))) := mX.rf.B (by decide)
    obtain ⟨s', tl', r1, r2, r3, r4, r5, r6, r7, r8⟩ := ih fu (j + 1) (mB s1 59 Q (lI (f Q + i.net z.fc Q))) (addK tl Q) (hB.x x2 (by decide) (by decide) (by decide)) (hI.x x2 (by decide) (by decide)) (fun a b w => (x2.eA 57 (by decide) a).trans (hK a b w)) ((x2.eA 55 (by decide) _).trans h55) (M1.x x2' (by decide) (by decide)) (nodup_addK htn) (fun P hP => by rcases mem_addK.mp hP with h | h; exact hb P h; rw [h]; exact hQb) (by omega) ⟨fun P hP hPt => by
        rw [mB_at]
        by_cases e : P = Q
        · subst e
          rw [if_pos rfl]
          simp only [hmem, or_true, if_true]
        · rw [if_neg e, x1.eB 59 (by decide), hSM.1 P hP (by rcases mem_addK.mp hPt with h | h; exact h; exact absurd h e)]
          simp only [hmem, e, or_false], fun P hP hPt => by
        have hPQ : P ≠ Q := fun e => hPt (mem_addK.mpr (Or.inr e))
        rw [mB_at, if_neg hPQ, x1.eB 59 (by decide)]
        exact hSM.2 P hP (fun w => hPt (mem_addK.mpr (Or.inl w)))⟩ (fun P hP hPt => hf0 P hP (fun w => hPt (mem_addK.mpr (Or.inl w)))) (by omega) (by omega) (by omega)
    refine ⟨s', tl', r1, r2, r3, r4, by omega, fun P => ?_, r7, x2.tr r8⟩
    rw [r6, mem_addK, hdr, List.mem_cons, or_assoc]
theorem d_short4 {n : Nat} {z : Z} (hX : okX z) (hF : okF z) (hO : okQ n z) {o : List Nat} (hol : o.length ≤ 250) (hob : ∀ k ∈ o, k < z.ins.length) (C : Ins → Bool) (v1 : Int32) : ∀ (d fu j : Nat) (s : mS) (tl : List Nat), MB s z → MQu s z → OS s o → MT s tl → tl.Nodup → (∀ P ∈ tl, P < 81920 ∧ z.fld P = true) → tl.length ≤ 16 * j → CH s z o C → (∀ P, P ∈ tl ↔ ∃ x ∈ o.take j, C (z.at x) = true ∧ P ∈ (z.at x).pls z.fc ∧ z.fld P = true) → SM s z (fun P => sumC z.fc C P ((o.take j).map z.at)) tl → o.length - j = d → d < fu → j ≤ o.length → ∃ s' tl', l_Mo_short0_4 fu v1 (nI j) s = some s' ∧ MT s' tl' ∧ tl'.Nodup ∧ (∀ P ∈ tl', P < 81920 ∧ z.fld P = true) ∧ tl'.length ≤ 4000 ∧ (∀ P, P ∈ tl' ↔ ∃ x ∈ o, C (z.at x) = true ∧ P ∈ (z.at x).pls z.fc ∧ z.fld P = true) ∧ SM s' z (fun P => sumC z.fc C P (o.map z.at)) tl' ∧ mX [48] [] [56, 57, 58] [59] s s' := by
  have hlim : ∀ k, inL (z.lim k) := fun k => by have := hF.lim k; omega
  intro d
  induction d with
  | zero =>
    intro fu j s tl hB hQ hS hM htn hb hl hC htl hSM hd hf hj
    obtain ⟨fu, rfl⟩ : ∃ m, fu = m + 1 := ⟨fu - 1, by omega⟩
    unfold l_Mo_short0_4
    rw [hS.1, if_pos ((nI_le' (by omega) (by omega)).mpr (by omega))]
    rw [List.take_of_length_le (by omega)] at hSM htl
    exact ⟨s, tl, rfl, hM, htn, hb, by omega, htl, hSM, mX.rf⟩
  | succ d ih =>
    intro fu j s tl hB hQ hS hM htn hb hl hC htl hSM hd hf hj
    obtain ⟨fu, rfl⟩ : ∃ m, fu = m + 1 := ⟨fu - 1, by omega⟩
    have hjl : j < o.length := by omega
    have hk := List.getElem?_eq_getElem hjl
    generalize hg : o[j] = k at hk
    have hkm := List.mem_of_getElem? hk
    have hkl := hob k hkm
    have htk := take_snoc hk
    have hI := hQ.ins k _ (at_some hkl)
    have hN := hO.n hkl
    have hk250 := hN.lt
    have hsn : ∀ P, sumC z.fc C P ((o.take (j + 1)).map z.at) = sumC z.fc C P ((o.take j).map z.at) + (if C (z.at k) then (z.at k).net z.fc P else 0) := fun P => by
      rw [htk, List.map_append, sumC_app]
      show _ + ((if C (z.at k) then (z.at k).net z.fc P else 0) + 0) = _
      omega
    unfold l_Mo_short0_4
    rw [hS.1, if_neg (fun q => by have := (nI_le' (by omega) (by omega)).mp q; omega), ixI (show j < 250 by omega) (by omega), Option.bind_some, hS.2 j k hk, ixI hk250 (by omega), Option.bind_some, hC k hkm]
    by_cases hc : C (z.at k) = true
    · rw [if_pos (b2i_ne0.mpr hc)]
      obtain ⟨ks, s1, e1, K1, k1, l1, x1⟩ := d_places hB hX hlim hI hN.lt hN.lg hN.len
      rw [e1, Option.bind_some]
      simp only []
      obtain ⟨s2, tl', r1, r2, r3, r4, r5, r6, r7, r8⟩ := d_short43 hX hN (show j < 250 by omega) (k1.lt hX hN) l1 k1.nd v1 (fun P => sumC z.fc C P ((o.take j).map z.at)) _ 100000 0 s1 tl (hB.x x1 (by decide) (by decide) (by decide)) (hI.x x1 (by decide) (by decide)) K1 ((x1.eA 55 (by decide) _).trans (hS.2 j k hk)) (hM.x x1 (by decide) (by decide)) htn (fun P hP => (hb P hP).1) (by omega) (by
          have := hSM.x x1 (by decide)
          exact ⟨fun P a b => by simp only [List.take_zero, List.not_mem_nil, if_false]; exact this.1 P a b, this.2⟩) (fun P hP hPt => by
          refine sumC_zero fun x hx hcx => Decidable.byContradiction fun hn => hPt ?_
          obtain ⟨y, hy, rfl⟩ := List.mem_map.mp hx
          exact (htl P).mpr ⟨y, hy, hcx, net_mem hn, ((k1.mem P).mp hP).2⟩) rfl (by omega) (by omega)
      rw [show l_Mo_short0_43 100000 v1 (nI j) (nI ks.length) 0 s1 = some s2 from r1, Option.bind_some, Option.bind_some, nI_add1]
      have x2 : mX [48] [] [56, 57, 58] [59] s s2 := (x1.mono (by simp) (by simp) (by simp) (by simp)).tr (r8.mono (by simp) (by simp) (by simp) (by simp))
      have hfl : ∀ P ∈ tl', P < 81920 ∧ z.fld P = true := fun P hP => by
        refine ⟨r4 P hP, ?_⟩
        rcases (r6 P).mp hP with h | h
        · exact (hb P h).2
        · rw [List.drop_zero] at h
          exact ((k1.mem P).mp h).2
      obtain ⟨s', tl2, q1, q2, q3, q4, q5, q6, q7, q8⟩ := ih fu (j + 1) s2 tl' (hB.x x2 (by decide) (by decide) (by decide)) (hQ.x x2 (by decide) (by decide) (by decide) (by decide)) (hS.x x2 (by decide) (by decide)) r2 r3 hfl (by omega) (hC.x x2 (by decide)) (fun P => by
          rw [r6, htl, List.drop_zero, k1.mem, htk]
          constructor
          · rintro (⟨x, h1, h2⟩ | h)
            · exact ⟨x, by simp [h1], h2⟩
            · exact ⟨k, by simp, hc, h⟩
          · rintro ⟨x, h1, h2⟩
            rcases List.mem_append.mp h1 with w | w
            · exact Or.inl ⟨x, w, h2⟩
            · rw [List.mem_singleton] at w
              rw [w] at h2
              exact Or.inr h2.2) ⟨fun P hP hPt => by
          rw [r7.1 P hP hPt]
          simp only [hsn, if_pos hc]
          by_cases hPk : P ∈ ks
          · simp only [hPk, if_true]
          · have h0 : (z.at k).net z.fc P = 0 := Decidable.byContradiction fun hn => hPk ((k1.mem P).mpr ⟨net_mem hn, (hfl P hPt).2⟩)
            simp only [hPk, if_false, h0, Int.add_zero], r7.2⟩ (by omega) (by omega) (by omega)
      exact ⟨s', tl2, q1, q2, q3, q4, q5, q6, q7, x2.tr q8⟩
    · rw [if_neg (fun q => q (b2i_eq0.mpr (by simpa using hc))), Option.bind_some, nI_add1]
      obtain ⟨s', tl2, q1, q2, q3, q4, q5, q6, q7, q8⟩ := ih fu (j + 1) s tl hB hQ hS hM htn hb (by omega) hC (fun P => by
          rw [htl, htk]
          constructor
          · rintro ⟨x, h1, h2⟩; exact ⟨x, by simp [h1], h2⟩
          · rintro ⟨x, h1, h2⟩
            rcases List.mem_append.mp h1 with w | w
            · exact ⟨x, w, h2⟩
            · rw [List.mem_singleton] at w
              rw [w] at h2
              exact absurd h2.1 hc) ⟨fun P hP hPt => by
          rw [hSM.1 P hP hPt]
          simp only [hsn, if_neg hc, Int.add_zero], hSM.2⟩ (by omega) (by omega) (by omega)
      exact ⟨s', tl2, q1, q2, q3, q4, q5, q6, q7, q8⟩
/-- the place fell too low -/
def Z.bad (z : Z) (C : Ins → Bool) (q : List Ins) (P : Nat) : Prop := sumC z.fc C P q < 0 ∧ ¬ z.flr P ≤ z.lev P + sumC z.fc C P q
theorem d_short106 {z : Z} {s : mS} (hB : MB s z) (hCc : okC z) (hX : okX z) (hF : okF z) {tl : List Nat} (hM : MT s tl) (hl : tl.length ≤ 4000) (htl : ∀ P ∈ tl, P < 81920 ∧ 64 ≤ P ∧ (P < 16384 → P / 64 < z.mem.length ∧ P % 64 < z.ast.length)) {C : Ins → Bool} {q : List Ins} (hSM : SM s z (fun P => sumC z.fc C P q) tl) (hbd : ∀ P, -1000000000000000000 ≤ sumC z.fc C P q ∧ sumC z.fc C P q ≤ 1000000000000000000) : ∀ (d fu j : Nat) (v : Int32), tl.length - j = d → d < fu → j ≤ tl.length → ((v = -1 ∧ ∀ P ∈ tl.take j, ¬ z.bad C q P) ∨ ∃ P ∈ tl, v = nI P ∧ z.bad C q P) → ∃ r, l_Mo_short0_106 fu v (nI j) s = some r ∧ ((r = -1 ∧ ∀ P ∈ tl, ¬ z.bad C q P) ∨ ∃ P ∈ tl, r = nI P ∧ z.bad C q P) := by
  intro d
  induction d with
  | zero =>
    intro fu j v hd hf hj hv
    obtain ⟨fu, rfl⟩ : ∃ m, fu = m + 1 := ⟨fu - 1, by omega⟩
    unfold l_Mo_short0_106
    rw [hM.cnt, if_pos ((nI_le' (by omega) (by omega)).mpr (by omega))]
    rw [List.take_of_length_le (by omega)] at hv
    exact ⟨v, rfl, hv⟩
  | succ d ih =>
    intro fu j v hd hf hj hv
    obtain ⟨fu, rfl⟩ : ∃ m, fu = m + 1 := ⟨fu - 1, by omega⟩
    have hjl : j < tl.length := by omega
    have hQ := List.getElem?_eq_getElem hjl
    generalize hg : tl[j] = Q at hQ
    have hQm := List.mem_of_getElem? hQ
    obtain ⟨hQb, hQ64, hQin⟩ := htl Q hQm
    have htk := take_snoc hQ
    have hs := hbd Q
    have hlev := hF.lev Q
    have hmemQ : Q / 64 < z.mem.length ∨ 16384 ≤ Q := by
      by_cases h : Q < 16384
      · exact Or.inl (hQin h).1
      · exact Or.inr (by omega)
    have hfl := hF.flr hmemQ
    unfold l_Mo_short0_106
    rw [hM.cnt, if_neg (fun q => by have := (nI_le' (by omega) (by omega)).mp q; omega), ixI (show j < 4096 by omega) (by omega), Option.bind_some, hM.row j Q hQ, if_neg (fun q => by have := (nI_lt' (b := 64) (by omega) (by omega)).mp q; omega), ixI hQb (by omega), Option.bind_some, show s.2.2.2 59 Q = lI (sumC z.fc C Q q) from hSM.1 Q hQb hQm, lI_0]
    have step : ∀ (w : Int32), ((w = v ∧ ¬ z.bad C q Q) ∨ (w = nI Q ∧ z.bad C q Q)) → ∃ r, ((some w).bind fun u75 => l_Mo_short0_106 fu u75 (nI j + 1) s) = some r ∧ ((r = -1 ∧ ∀ P ∈ tl, ¬ z.bad C q P) ∨ ∃ P ∈ tl, r = nI P ∧ z.bad C q P) := by
      intro w hw
      rw [Option.bind_some, nI_add1]
      refine ih fu (j + 1) w (by omega) (by omega) (by omega) ?_
      rcases hw with ⟨rfl, h2⟩ | ⟨rfl, h2⟩
      · rcases hv with ⟨h3, h4⟩ | h3
        · refine Or.inl ⟨h3, fun P hP => ?_⟩
          rw [htk] at hP
          rcases List.mem_append.mp hP with e | e
          · exact h4 P e
          · rw [List.mem_singleton.mp e]; exact h2
        · exact Or.inr h3
      · exact Or.inr ⟨Q, hQm, rfl, h2⟩
    by_cases hn : sumC z.fc C Q q < 0
    · rw [if_neg (fun w => by have := (cmp_ge0 (by omega) (by omega)).mp w; omega)]
      have hev : d_Mo_value (nI Q) s = some (lI (if Q < 16384 then z.pos Q else z.lim (Q - 16384) - z.paid (Q - 16384))) ∧ d_Mo_floor (nI Q) s = some (lI (if Q < 16384 then z.flr Q else 0)) := by
        by_cases hp : Q < 16384
        · rw [if_pos hp, if_pos hp]
          exact ⟨d_value hB hp, d_floor hB hCc hX.fc hp (hQin hp).2 (hF.crd _ (hQin hp).1)⟩
        · rw [if_neg hp, if_neg hp]
          obtain ⟨e, rfl⟩ : ∃ e, Q = 16384 + e := ⟨Q - 16384, by omega⟩
          rw [Nat.add_sub_cancel_left]
          exact ⟨d_value_r hB (by omega), d_floor_r (by omega) (by omega)⟩
      rw [hev.1, Option.bind_some, hev.2, Option.bind_some, lI_add]
      have hd1 : (0 ≤ lg_cmp (lI ((if Q < 16384 then z.pos Q else z.lim (Q - 16384) - z.paid (Q - 16384)) + sumC z.fc C Q q)) (lI (if Q < 16384 then z.flr Q else 0))) ↔ z.flr Q ≤ z.lev Q + sumC z.fc C Q q := by
        by_cases hp : Q < 16384
        · have e : z.lev Q = z.pos Q := by unfold Z.lev; rw [if_pos hp]
          rw [if_pos hp, if_pos hp, ← e]
          exact cmp_ge0 (by omega) (by omega)
        · have e1 : z.lev Q = - z.paid (Q - 16384) := by unfold Z.lev; rw [if_neg hp]
          have e2 : z.flr Q = - z.lim (Q - 16384) := by unfold Z.flr; rw [if_neg hp]
          have := hF.lim (Q - 16384)
          rw [if_neg hp, if_neg hp, cmp_ge0 (by omega) (by omega)]
          omega
      by_cases hf2 : z.flr Q ≤ z.lev Q + sumC z.fc C Q q
      · rw [if_pos (hd1.mpr hf2)]
        exact step v (Or.inl ⟨rfl, fun w => w.2 hf2⟩)
      · rw [if_neg (fun w => hf2 (hd1.mp w))]
        exact step (nI Q) (Or.inr ⟨rfl, hn, hf2⟩)
    · rw [if_pos ((cmp_ge0 (by omega) (by omega)).mpr (by omega))]
      exact step v (Or.inl ⟨rfl, fun w => hn w.1⟩)
theorem d_short {n : Nat} {s : mS} {z : Z} (hCc : okC z) (hX : okX z) (hF : okF z) (hO : okQ n z) (hG : good z) (hB : MB s z) (hQ : MQu s z) (h0 : M0 s) {o : List Nat} (ho : isO z z.ins.length o) (hS : OS s o) {C : Ins → Bool} (hC : CH s z o C) : ∃ r s', d_Mo_short0 s = some (r, s') ∧ ((r = -1 ∧ z.flrd (o.map z.at) C) ∨ ∃ P, P < 81920 ∧ z.fld P = true ∧ r = nI P ∧ z.bad C (o.map z.at) P) ∧ M0 s' ∧ mX [48] [] [56, 57, 58] [59] s s' := by
  have hol := ho.len
  have hil := hO.len
  obtain ⟨s1, tl, q1, q2, q3, q4, q5, q6, q7, q8⟩ := d_short4 hX hF hO (o := o) (by omega) (fun k hk => at_lt ho hk) C (-1) _ 100000 0 s [] hB hQ hS h0.1 List.nodup_nil (by simp) (by simp) hC (by simp) ⟨fun P _ h => by simp at h, fun P hP h => h0.2 P hP h⟩ rfl (by omega) (by omega)
  have hin : ∀ P ∈ tl, P < 81920 ∧ 64 ≤ P ∧ (P < 16384 → P / 64 < z.mem.length ∧ P % 64 < z.ast.length) := fun P hP => by
    obtain ⟨x, hx, -, hpl, hfl⟩ := (q6 P).mp hP
    have := pls_in hX (hO.n (at_lt ho hx)).lg hpl
    omega
  have hbd : ∀ P, -1000000000000000000 ≤ sumC z.fc C P (o.map z.at) ∧ sumC z.fc C P (o.map z.at) ≤ 1000000000000000000 := fun P => by
    have := sumC_bnd (z := z) C P (q := o.map z.at) (fun i hi => by
      obtain ⟨x, hx, rfl⟩ := List.mem_map.mp hi
      have h1 := hO.n (at_lt ho hx)
      exact ⟨by omega, h1.lg, h1.len⟩)
    rw [List.length_map] at this
    omega
  obtain ⟨r, e2, hr⟩ := d_short106 (hB.x q8 (by decide) (by decide) (by decide)) hCc hX hF q2 q5 hin q7 hbd _ 100000 0 (-1) rfl (by omega) (by omega) (Or.inl ⟨rfl, by simp⟩)
  obtain ⟨s2, u1, u2, u3⟩ := d_untouch q2 (fun P hP hn => q7.2 P hP hn) (by omega) (fun P hP => (q4 P hP).1) q3
  unfold d_Mo_short0
  rw [show l_Mo_short0_4 100000 (-1) 0 s = some s1 from q1, Option.bind_some, show l_Mo_short0_106 100000 (-1) 0 s1 = some r from e2, Option.bind_some, u1, Option.bind_some]
  refine ⟨r, s2, rfl, ?_, u2, q8.tr (u3.mono (by simp) (by simp) (by simp) (by simp))⟩
  rcases hr with ⟨h1, h2⟩ | ⟨P, h1, h2, h3⟩
  · refine Or.inl ⟨h1, fun P ⟨i, hi, hci, hti⟩ => ?_⟩
    obtain ⟨x, hx, rfl⟩ := List.mem_map.mp hi
    have htk := tks_iff.mp hti
    have hpl := net_mem (i := z.at x) (fc := z.fc) (P := P) (by omega)
    have hPt : P ∈ tl := (q6 P).mpr ⟨x, hx, hci, hpl, htk.2⟩
    have hnb := h2 P hPt
    by_cases hn : sumC z.fc C P (o.map z.at) < 0
    · exact Decidable.byContradiction fun w => hnb ⟨hn, w⟩
    · have hlf : z.flr P ≤ z.lev P := by
        rcases pls_in hX (hO.n (at_lt ho hx)).lg hpl with w | w
        · have := hG.flo P w.2.1 w.1 w.2.2.1 w.2.2.2
          unfold Z.lev
          rw [if_pos w.1]; exact this
        · obtain ⟨e, rfl⟩ : ∃ e, P = 16384 + e := ⟨P - 16384, by omega⟩
          have h5 := htk.2
          rw [fld_room] at h5
          have h6 := hG.lim e (by omega) (of_decide_eq_true h5)
          unfold Z.lev Z.flr
          rw [if_neg (by omega), if_neg (by omega), Nat.add_sub_cancel_left]; omega
      omega
  · exact Or.inr ⟨P, (q4 P h1).1, (q4 P h1).2, h2, h3⟩
