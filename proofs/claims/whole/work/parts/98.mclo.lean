/-! The reference takes out those that may not settle without one that is out. -/
def CH (s : mS) (z : Z) (o : List Nat) (C : Ins → Bool) : Prop := ∀ k ∈ o, s.2.2.1 49 k = b2i (C (z.at k))
theorem CH.x {ki kl ka kb : List Nat} {s s' : mS} {z : Z} {o : List Nat} {C : Ins → Bool} (hM : CH s z o C) (h : mX ki kl ka kb s s') (h2 : 49 ∉ ka) : CH s' z o C := fun k hk => (h.eA _ h2 k).trans (hM k hk)
theorem d_hit_loop {z : Z} (hX : okX z) {k : Nat} {i : Ins} (hN : okN z k i) {ks tl : List Nat} (hks : ∀ P ∈ ks, P < 81920) (hkl : ks.length ≤ 16) (v1 : Int32) : ∀ (d fu j : Nat) (s : mS) (c : Bool), MB s z → MI s k i → KS s ks → MT s tl → s.2.2.1 49 k = b2i c → ks.length - j = d → d < fu → j ≤ ks.length → ∃ s', l_Mo_close_26 fu v1 (nI k) (nI ks.length) (nI j) s = some s' ∧ s'.2.2.1 49 k = b2i (c && !((ks.drop j).any fun P => decide (i.net z.fc P < 0 ∧ P ∈ tl))) ∧ (∀ q, q ≠ k → s'.2.2.1 49 q = s.2.2.1 49 q) ∧ mX [] [] [49] [] s s' := by
  intro d
  induction d with
  | zero =>
    intro fu j s c hB hI hK hM hc hd hf hj
    obtain ⟨fu, rfl⟩ : ∃ m, fu = m + 1 := ⟨fu - 1, by omega⟩
    unfold l_Mo_close_26
    rw [if_pos ((nI_le' (by omega) (by omega)).mpr (by omega)), List.drop_eq_nil_of_le (by omega)]
    exact ⟨s, rfl, by simpa using hc, fun _ _ => rfl, mX.rf⟩
  | succ d ih =>
    intro fu j s c hB hI hK hM hc hd hf hj
    obtain ⟨fu, rfl⟩ : ∃ m, fu = m + 1 := ⟨fu - 1, by omega⟩
    have hjl : j < ks.length := by omega
    have hQ := List.getElem?_eq_getElem hjl
    generalize hg : ks[j] = Q at hQ
    have hQb := hks Q (List.mem_of_getElem? hQ)
    have hdr : ks.drop j = Q :: ks.drop (j + 1) := by rw [List.drop_eq_getElem_cons hjl, hg]
    have hnb := hN.net Q
    have hk := hN.lt
    unfold l_Mo_close_26
    rw [if_neg (fun q => by have := (nI_le' (by omega) (by omega)).mp q; omega), ixI (show j < 16 by omega) (by omega), Option.bind_some, hK j Q hQ, d_net hB hX hI hN.lt hN.lg hN.len hQb, Option.bind_some, lI_0, hdr, List.any_cons, ixI hQb (by omega), Option.bind_some, hM.mrk Q hQb, ixI hk (by omega), Option.bind_some]
    by_cases hq : i.net z.fc Q < 0
    · rw [if_neg (fun q => by have := (cmp_ge0 (by omega) (by omega)).mp q; omega)]
      by_cases hm : Q ∈ tl
      · rw [if_neg (b2i_ne0.mpr (decide_eq_true hm)), Option.bind_some, nI_add1]
        have x1 : mX [] [] [49] [] s (mA s 49 k (am_bn 3 0)) := mX.rf.A (by decide)
        obtain ⟨s', r1, r2, r3, r4⟩ := ih fu (j + 1) (mA s 49 k (am_bn 3 0)) false (hB.x x1 (by decide) (by decide) (by decide)) (hI.x x1 (by decide) (by decide)) (fun a b w => (x1.eA 57 (by decide) a).trans (hK a b w)) (hM.x x1 (by decide) (by decide)) (by rw [mA_at, if_pos rfl]; rfl) (by omega) (by omega) (by omega)
        refine ⟨s', r1, ?_, fun q hq2 => ?_, x1.tr r4⟩
        · rw [r2, decide_eq_true (show i.net z.fc Q < 0 ∧ Q ∈ tl from ⟨hq, hm⟩)]; simp
        · rw [r3 q hq2, mA_at, if_neg hq2]
      · rw [if_pos (b2i_eq0.mpr (decide_eq_false hm)), Option.bind_some, nI_add1]
        obtain ⟨s', r1, r2, r3, r4⟩ := ih fu (j + 1) s c hB hI hK hM hc (by omega) (by omega) (by omega)
        refine ⟨s', r1, ?_, r3, r4⟩
        rw [r2, decide_eq_false (show ¬ (i.net z.fc Q < 0 ∧ Q ∈ tl) from fun w => hm w.2), Bool.false_or]
    · rw [if_pos ((cmp_ge0 (by omega) (by omega)).mpr (by omega)), Option.bind_some, nI_add1]
      obtain ⟨s', r1, r2, r3, r4⟩ := ih fu (j + 1) s c hB hI hK hM hc (by omega) (by omega) (by omega)
      refine ⟨s', r1, ?_, r3, r4⟩
      rw [r2, decide_eq_false (show ¬ (i.net z.fc Q < 0 ∧ Q ∈ tl) from fun w => hq w.1), Bool.false_or]
theorem hit_keys {z : Z} {m : Nat → Bool} {i : Ins} {ks tl : List Nat} (hk : isK z i.legs ks) (hm : ∀ P, m P = true ↔ P ∈ tl) : (ks.any fun P => decide (i.net z.fc P < 0 ∧ P ∈ tl)) = z.hit m i := by
  rw [Bool.eq_iff_iff, hit_iff, List.any_eq_true]
  constructor
  · rintro ⟨P, h1, h2⟩
    have h3 := of_decide_eq_true h2
    exact ⟨P, (hk.tks P).mp ⟨h1, h3.1⟩, (hm P).mpr h3.2⟩
  · rintro ⟨P, h1, h2⟩
    have h3 := (hk.tks P).mpr h1
    exact ⟨P, h3.1, decide_eq_true ⟨h3.2, (hm P).mp h2⟩⟩
theorem at_key {n : Nat} {z : Z} (hO : okQ n z) {x y : Nat} (hx : x < z.ins.length) (hy : y < z.ins.length) (hn : x ≠ y) : ¬ ((z.at x).who = (z.at y).who ∧ (z.at x).nm = (z.at y).nm) := by
  have hp := List.pairwise_iff_getElem.mp hO.unq
  have ex : z.ins[x] = z.at x := Option.some.inj ((List.getElem?_eq_getElem hx).symm.trans (at_some hx))
  have ey : z.ins[y] = z.at y := Option.some.inj ((List.getElem?_eq_getElem hy).symm.trans (at_some hy))
  rcases Nat.lt_or_gt_of_ne hn with q | q
  · have := hp x y hx hy q
    rw [ex, ey] at this
    exact this
  · have := hp y x hy hx q
    rw [ex, ey] at this
    exact fun w => this ⟨w.1.symm, w.2.symm⟩
theorem d_close_loop {n : Nat} {z : Z} (hX : okX z) (hF : okF z) (hO : okQ n z) {o : List Nat} (hol : o.length ≤ 250) (hob : ∀ k ∈ o, k < z.ins.length) (hnd : o.Nodup) : ∀ (d fu j : Nat) (s : mS) (tl : List Nat) (m : Nat → Bool) (C : Ins → Bool), MB s z → MQu s z → OS s o → MT s tl → tl.Nodup → (∀ P ∈ tl, P < 81920) → tl.length ≤ 16 * j → (∀ P, m P = true ↔ P ∈ tl) → CH s z o C → o.length - j = d → d < fu → j ≤ o.length → ∃ s' tl', l_Mo_close_2 fu (nI j) s = some s' ∧ CH s' z o (cloF z m C ((o.drop j).map z.at)) ∧ MT s' tl' ∧ tl'.Nodup ∧ (∀ P ∈ tl', P < 81920) ∧ tl'.length ≤ 4096 ∧ mX [48] [] [49, 56, 57, 58] [] s s' := by
  have hlim : ∀ k, inL (z.lim k) := fun k => by have := hF.lim k; omega
  intro d
  induction d with
  | zero =>
    intro fu j s tl m C hB hQ hS hM htn hb hl hm hC hd hf hj
    obtain ⟨fu, rfl⟩ : ∃ m, fu = m + 1 := ⟨fu - 1, by omega⟩
    unfold l_Mo_close_2
    rw [hS.1, if_pos ((nI_le' (by omega) (by omega)).mpr (by omega)), List.drop_eq_nil_of_le (by omega)]
    exact ⟨s, tl, rfl, hC, hM, htn, hb, by omega, mX.rf⟩
  | succ d ih =>
    intro fu j s tl m C hB hQ hS hM htn hb hl hm hC hd hf hj
    obtain ⟨fu, rfl⟩ : ∃ m, fu = m + 1 := ⟨fu - 1, by omega⟩
    have hjl : j < o.length := by omega
    have hk := List.getElem?_eq_getElem hjl
    generalize hg : o[j] = k at hk
    have hkm := List.mem_of_getElem? hk
    have hkl := hob k hkm
    have hdr : o.drop j = k :: o.drop (j + 1) := by rw [List.drop_eq_getElem_cons hjl, hg]
    have hI := hQ.ins k _ (at_some hkl)
    have hN := hO.n hkl
    have hk250 := hN.lt
    unfold l_Mo_close_2
    rw [hS.1, if_neg (fun q => by have := (nI_le' (by omega) (by omega)).mp q; omega), ixI (show j < 250 by omega) (by omega), Option.bind_some, hS.2 j k hk]
    obtain ⟨ks, s1, e1, K1, k1, l1, x1⟩ := d_places hB hX hlim hI hN.lt hN.lg hN.len
    have B1 := hB.x x1 (by decide) (by decide) (by decide)
    have I1 := hI.x x1 (by decide) (by decide)
    have M1 := hM.x x1 (by decide) (by decide)
    have C1 := hC.x x1 (by decide)
    obtain ⟨s2, e2, c2, oth2, x2⟩ := d_hit_loop hX hN (k1.lt hX hN) l1 (nI j) _ 100000 0 s1 (C (z.at k)) B1 I1 K1 M1 (C1 k hkm) rfl (by omega) (by omega)
    rw [e1, Option.bind_some]
    simp only []
    rw [show l_Mo_close_26 100000 (nI j) (nI k) (nI ks.length) 0 s1 = some s2 from e2, Option.bind_some, ixI hk250 (by omega), Option.bind_some]
    rw [List.drop_zero, hit_keys k1 hm] at c2
    rw [c2, hdr, List.map_cons]
    have x12 : mX [48] [] [49, 56, 57, 58] [] s s2 := (x1.mono (by decide) (by decide) (by decide) (by decide)).tr (x2.mono (by decide) (by decide) (by decide) (by decide))
    by_cases hch : (C (z.at k) && !(z.hit m (z.at k))) = true
    · rw [hch, if_pos (by decide), Option.bind_some, nI_add1]
      have C2 : CH s2 z o C := fun q hq => by
        by_cases e : q = k
        · subst e
          rw [c2, hch]
          rw [Bool.and_eq_true] at hch
          rw [hch.1]
        · rw [oth2 q e]; exact C1 q hq
      obtain ⟨s', tl', r1, r2, r3, r4, r5, r6, r7⟩ := ih fu (j + 1) s2 tl m C (hB.x x12 (by decide) (by decide) (by decide)) (hQ.x x12 (by decide) (by decide) (by decide) (by decide)) (hS.x x12 (by decide) (by decide)) (M1.x x2 (by decide) (by decide)) htn hb (by omega) hm C2 (by omega) (by omega) (by omega)
      refine ⟨s', tl', r1, ?_, r3, r4, r5, r6, x12.tr r7⟩
      have : cloF z m C (z.at k :: (o.drop (j + 1)).map z.at) = cloF z m C ((o.drop (j + 1)).map z.at) := by
        conv => lhs; unfold cloF
        rw [if_pos hch]
      rw [this]; exact r2
    · rw [show (C (z.at k) && !(z.hit m (z.at k))) = false by simpa using hch, if_neg (by decide)]
      obtain ⟨tl', s3, r1, r2, r3, r4, r5, r6, r7⟩ := d_touchTaken (B1.x x2 (by decide) (by decide) (by decide)) hX hlim (I1.x x2 (by decide) (by decide)) hN (M1.x x2 (by decide) (by decide)) htn hb (by omega)
      rw [r1, Option.bind_some, Option.bind_some, nI_add1]
      have x13 : mX [48] [] [49, 56, 57, 58] [] s s3 := x12.tr (r7.mono (by decide) (by decide) (by decide) (by decide))
      have C3 : CH s3 z o (out1 C (z.at k)) := fun q hq => by
        rw [r7.eA 49 (by decide)]
        by_cases e : q = k
        · subst e
          rw [c2, out1_i, show (C (z.at q) && !(z.hit m (z.at q))) = false by simpa using hch]
        · rw [oth2 q e, out1_ne (at_key hO hkl (hob q hq) (fun w => e w.symm))]; exact C1 q hq
      obtain ⟨s', tl2, q1, q2, q3, q4, q5, q6, q7⟩ := ih fu (j + 1) s3 tl' (z.mrk m (z.at k)) (out1 C (z.at k)) (hB.x x13 (by decide) (by decide) (by decide)) (hQ.x x13 (by decide) (by decide) (by decide) (by decide)) (hS.x x13 (by decide) (by decide)) r2 r3 r4 (by omega) (fun P => by
        unfold Z.mrk
        rw [Bool.or_eq_true, hm, r6]) C3 (by omega) (by omega) (by omega)
      refine ⟨s', tl2, q1, ?_, q3, q4, q5, q6, x13.tr q7⟩
      have : cloF z m C (z.at k :: (o.drop (j + 1)).map z.at) = cloF z (z.mrk m (z.at k)) (out1 C (z.at k)) ((o.drop (j + 1)).map z.at) := by
        conv => lhs; unfold cloF
        rw [if_neg hch]
      rw [this]; exact q2
theorem d_close {n : Nat} {s : mS} {z : Z} (hX : okX z) (hF : okF z) (hO : okQ n z) (hB : MB s z) (hQ : MQu s z) (h0 : M0 s) {o : List Nat} (ho : isO z z.ins.length o) (hS : OS s o) {C : Ins → Bool} (hC : CH s z o C) : ∃ s', d_Mo_close s = some s' ∧ CH s' z o (cloF z (fun _ => false) C (o.map z.at)) ∧ M0 s' ∧ mX [48] [] [49, 56, 57, 58] [59] s s' := by
  have hol := ho.len
  have hil := hO.len
  obtain ⟨s1, tl, q1, q2, q3, q4, q5, q6, q7⟩ := d_close_loop hX hF hO (o := o) (by omega) (fun k hk => at_lt ho hk) ho.nd _ 100000 0 s [] (fun _ => false) C hB hQ hS h0.1 List.nodup_nil (by simp) (by simp) (by simp) hC rfl (by omega) (by omega)
  have hsu : SU s1 tl := fun P hP _ => (q7.eB 59 (by decide) P).trans (h0.2 P hP (by simp))
  obtain ⟨s2, u1, u2, u3⟩ := d_untouch q3 hsu q6 q5 q4
  unfold d_Mo_close
  rw [show l_Mo_close_2 100000 0 s = some s1 from q1, Option.bind_some, u1, Option.bind_some]
  rw [List.drop_zero] at q2
  exact ⟨s2, rfl, q2.x u3 (by decide), u2, (q7.mono (by simp) (by simp) (by simp) (by simp)).tr (u3.mono (by simp) (by simp) (by simp) (by simp))⟩
