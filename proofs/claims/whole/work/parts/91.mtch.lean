/-! Marks. -/
theorem legN_mem {fc : Option Nat} {P : Nat} {l : Leg} (h : legN fc P l ≠ 0) : P ∈ legP fc l := by
  unfold legN at h
  rw [legP_mem]
  by_cases hp : P < 16384
  · rw [if_pos hp] at h
    by_cases h1 : l.a = P % 64
    · rw [if_pos h1] at h
      by_cases h2 : l.t = P / 64
      · right; left; omega
      · rw [if_neg h2] at h
        by_cases h3 : l.f = P / 64
        · left; omega
        · rw [if_neg h3] at h; exact absurd rfl h
    · rw [if_neg h1] at h; exact absurd rfl h
  · rw [if_neg hp] at h
    by_cases h1 : some l.a = fc
    · rw [if_pos h1] at h
      by_cases h2 : l.f = (P - 16384) / 256 ∧ l.t = (P - 16384) % 256
      · right; right; exact ⟨h1, Or.inl (by omega)⟩
      · rw [if_neg h2] at h
        by_cases h3 : l.f = (P - 16384) % 256 ∧ l.t = (P - 16384) / 256
        · right; right; exact ⟨h1, Or.inr (by omega)⟩
        · rw [if_neg h3] at h; exact absurd rfl h
    · rw [if_neg h1] at h; exact absurd rfl h
theorem netL_acc (fc : Option Nat) (P : Nat) : ∀ (ls : List Leg) (v : Int), ls.foldl (fun v l => v + legN fc P l) v = v + netL fc P ls := by
  intro ls
  induction ls with
  | nil => intro v; show v = v + 0; omega
  | cons l ls ih =>
    intro v
    show ls.foldl _ (v + legN fc P l) = v + ls.foldl _ (0 + legN fc P l)
    rw [ih, ih (0 + legN fc P l)]; omega
theorem netL_cons (fc : Option Nat) (P : Nat) (l : Leg) (ls : List Leg) : netL fc P (l :: ls) = legN fc P l + netL fc P ls := by
  show ls.foldl _ (0 + legN fc P l) = _
  rw [netL_acc]; omega
theorem netL_mem {fc : Option Nat} {P : Nat} : ∀ {ls : List Leg}, netL fc P ls ≠ 0 → P ∈ ls.flatMap (legP fc) := by
  intro ls
  induction ls with
  | nil => intro h; exact absurd rfl h
  | cons l ls ih =>
    intro h
    rw [netL_cons] at h
    rw [List.flatMap_cons, List.mem_append]
    by_cases h1 : legN fc P l = 0
    · right; exact ih (by omega)
    · left; exact legN_mem h1
theorem net_mem {i : Ins} {fc : Option Nat} {P : Nat} (h : i.net fc P ≠ 0) : P ∈ i.pls fc := netL_mem h
theorem tks_iff {z : Z} {i : Ins} {P : Nat} : z.tks i P = true ↔ i.net z.fc P < 0 ∧ z.fld P = true := by
  unfold Z.tks
  rw [Bool.and_eq_true, decide_eq_true_iff]
def MT (s : mS) (tl : List Nat) : Prop := (s.1 48 = nI tl.length) ∧ (∀ (j P : Nat), tl[j]? = some P → s.2.2.1 56 j = nI P) ∧ (∀ P, P < 81920 → s.2.2.1 58 P = b2i (decide (P ∈ tl)))
theorem MT.cnt {s : mS} {tl : List Nat} (h : MT s tl) : s.1 48 = nI tl.length := h.1
theorem MT.row {s : mS} {tl : List Nat} (h : MT s tl) : ∀ (j P : Nat), tl[j]? = some P → s.2.2.1 56 j = nI P := h.2.1
theorem MT.mrk {s : mS} {tl : List Nat} (h : MT s tl) : ∀ P, P < 81920 → s.2.2.1 58 P = b2i (decide (P ∈ tl)) := h.2.2
theorem MT.x {ki kl ka kb : List Nat} {s s' : mS} {tl : List Nat} (hM : MT s tl) (h : mX ki kl ka kb s s') (h1 : 48 ∉ ki) (h2 : 56 ∉ ka ∧ 58 ∉ ka) : MT s' tl := ⟨(h.1 _ h1).trans hM.cnt, fun j k q => (h.eA _ h2.1 j).trans (hM.row j k q), fun P q => (h.eA _ h2.2 P).trans (hM.mrk P q)⟩
theorem mI_get (s : mS) (k : Nat) (v : Int32) (j : Nat) : (mI s k v).1 j = if j = k then v else s.1 j := rfl
theorem d_touch {s : mS} {tl : List Nat} (hM : MT s tl) (hl : tl.length < 4096) {P : Nat} (hP : P < 81920) : ∃ s', d_Mo_touch (nI P) s = some s' ∧ MT s' (addK tl P) ∧ mX [48] [] [56, 58] [] s s' := by
  unfold d_Mo_touch
  rw [ixI hP (by omega), Option.bind_some, hM.mrk P hP]
  by_cases h : P ∈ tl
  · rw [if_pos (b2i_ne0.mpr (decide_eq_true h))]
    refine ⟨s, rfl, ?_, mX.rf⟩
    unfold addK
    rw [if_pos h]; exact hM
  · rw [if_neg (fun q => q (b2i_eq0.mpr (decide_eq_false h))), hM.cnt, if_pos (fun q => by have := nI_inj (b := 4096) (by omega) (by omega) q; omega), ixI hl (by omega), Option.bind_some, nI_add1]
    refine ⟨_, rfl, ?_, ((mX.rf.A (by decide)).A (by decide)).I (by decide)⟩
    unfold addK
    rw [if_neg h]
    refine ⟨?_, fun j Q hQ => ?_, fun Q hQ => ?_⟩
    · rw [mI_get, if_pos rfl, List.length_append]; rfl
    · show (mA (mA s 58 P (am_bn 3 1)) 56 tl.length (nI P)).2.2.1 56 j = nI Q
      rw [mA_get, if_pos rfl]
      by_cases hj : j = tl.length
      · rw [if_pos hj]
        rw [hj, List.getElem?_append_right (Nat.le_refl _), Nat.sub_self] at hQ
        cases hQ; rfl
      · rw [if_neg hj, mA_get, if_neg (by decide)]
        have : j < (tl ++ [P]).length := (List.getElem?_eq_some_iff.mp hQ).1
        rw [List.length_append, List.length_singleton] at this
        rw [List.getElem?_append_left (by omega)] at hQ
        exact hM.row j Q hQ
    · show (mA (mA s 58 P (am_bn 3 1)) 56 tl.length (nI P)).2.2.1 58 Q = _
      rw [mA_get, if_neg (by decide), mA_get, if_pos rfl]
      by_cases hj : Q = P
      · rw [if_pos hj, decide_eq_true (by rw [hj]; simp)]; rfl
      · rw [if_neg hj, hM.mrk Q hQ]
        congr 1
        rw [decide_eq_decide]
        simp [hj]
/-- sums that stand only where something is marked -/
def SU (s : mS) (tl : List Nat) : Prop := ∀ P, P < 81920 → P ∉ tl → s.2.2.2 59 P = 0
def M0 (s : mS) : Prop := MT s [] ∧ SU s []
theorem M0.x {ki kl ka kb : List Nat} {s s' : mS} (hM : M0 s) (h : mX ki kl ka kb s s') (h1 : 48 ∉ ki) (h2 : 56 ∉ ka ∧ 58 ∉ ka) (h3 : 59 ∉ kb) : M0 s' := ⟨hM.1.x h h1 h2, fun P q w => (h.eB _ h3 P).trans (hM.2 P q w)⟩
theorem d_untouch_loop : ∀ (d fu m : Nat) (s : mS) (tl : List Nat), tl.length ≤ 4096 → (∀ P ∈ tl, P < 81920) → tl.Nodup → s.1 48 = nI tl.length → (∀ (j P : Nat), tl[j]? = some P → s.2.2.1 56 j = nI P) → (∀ P, P < 81920 → s.2.2.1 58 P = b2i (decide (P ∈ tl.drop m))) → (∀ P, P < 81920 → P ∉ tl.drop m → s.2.2.2 59 P = 0) → tl.length - m = d → d < fu → m ≤ tl.length → ∃ s', l_Mo_untouch_2 fu (nI m) s = some s' ∧ (∀ P, P < 81920 → s'.2.2.1 58 P = 0) ∧ (∀ P, P < 81920 → s'.2.2.2 59 P = 0) ∧ mX [] [] [58] [59] s s' := by
  intro d
  induction d with
  | zero =>
    intro fu m s tl hl hb hnd hc hr hmk hsu hd hf hm
    obtain ⟨fu, rfl⟩ : ∃ m, fu = m + 1 := ⟨fu - 1, by omega⟩
    unfold l_Mo_untouch_2
    rw [hc, if_pos ((nI_le' (by omega) (by omega)).mpr (by omega))]
    rw [List.drop_eq_nil_of_le (by omega)] at hmk hsu
    exact ⟨s, rfl, fun P hP => by rw [hmk P hP]; rfl, fun P hP => hsu P hP (by simp), mX.rf⟩
  | succ d ih =>
    intro fu m s tl hl hb hnd hc hr hmk hsu hd hf hm
    obtain ⟨fu, rfl⟩ : ∃ m, fu = m + 1 := ⟨fu - 1, by omega⟩
    have hml : m < tl.length := by omega
    have hQ := List.getElem?_eq_getElem hml
    generalize hg : tl[m] = Q at hQ
    have hQb := hb Q (List.mem_of_getElem? hQ)
    have hdr : tl.drop m = Q :: tl.drop (m + 1) := by rw [List.drop_eq_getElem_cons hml, hg]
    have hnq : Q ∉ tl.drop (m + 1) := by
      have : (tl.drop m).Nodup := hnd.sublist (List.drop_sublist m tl)
      rw [hdr] at this
      exact (List.nodup_cons.mp this).1
    unfold l_Mo_untouch_2
    rw [hc, if_neg (fun q => by have := (nI_le' (by omega) (by omega)).mp q; omega), ixI (show m < 4096 by omega) (by omega), Option.bind_some, hr m Q hQ, ixI hQb (by omega), Option.bind_some, nI_add1]
    obtain ⟨s', h1, h2, h3, h4⟩ := ih fu (m + 1) (mB (mA s 58 Q (am_bn 3 0)) 59 Q 0) tl hl hb hnd hc (fun j P q => by
        show (mA s 58 Q (am_bn 3 0)).2.2.1 56 j = nI P
        rw [mA_get, if_neg (by decide)]; exact hr j P q) (fun P hP => by
        show (mA s 58 Q (am_bn 3 0)).2.2.1 58 P = _
        rw [mA_get, if_pos rfl]
        by_cases e : P = Q
        · rw [if_pos e, decide_eq_false (by rw [e]; exact hnq)]; rfl
        · rw [if_neg e, hmk P hP]
          congr 1
          rw [decide_eq_decide, hdr]
          simp [e]) (fun P hP hn => by
        rw [mB_get, if_pos rfl]
        by_cases e : P = Q
        · rw [if_pos e]
        · rw [if_neg e]
          show s.2.2.2 59 P = 0
          refine hsu P hP ?_
          rw [hdr]
          simp [e, hn]) (by omega) (by omega) (by omega)
    exact ⟨s', h1, h2, h3, ((mX.rf.A (by decide)).B (by decide)).tr h4⟩
theorem d_untouch {s : mS} {tl : List Nat} (hM : MT s tl) (hS : SU s tl) (hl : tl.length ≤ 4096) (hb : ∀ P ∈ tl, P < 81920) (hnd : tl.Nodup) : ∃ s', d_Mo_untouch s = some s' ∧ M0 s' ∧ mX [48] [] [58] [59] s s' := by
  obtain ⟨s', h1, h2, h3, h4⟩ := d_untouch_loop _ 100000 0 s tl hl hb hnd hM.cnt hM.row hM.mrk hS rfl (by omega) (by omega)
  unfold d_Mo_untouch
  rw [show l_Mo_untouch_2 100000 0 s = some s' from h1]
  exact ⟨_, rfl, ⟨⟨rfl, fun j P q => by simp at q, fun P hP => by rw [show (mI s' 48 0).2.2.1 58 P = s'.2.2.1 58 P from rfl, h2 P hP]; rfl⟩, fun P hP _ => h3 P hP⟩, (h4.mono (by simp) (by simp) (by simp) (by simp)).I (by decide)⟩
def okN (z : Z) (k : Nat) (i : Ins) : Prop := (k < 250) ∧ (∀ l ∈ i.legs, okL z l) ∧ (i.legs.length ≤ 4)
theorem okN.lt {z : Z} {k : Nat} {i : Ins} (h : okN z k i) : k < 250 := h.1
theorem okN.lg {z : Z} {k : Nat} {i : Ins} (h : okN z k i) : ∀ l ∈ i.legs, okL z l := h.2.1
theorem okN.len {z : Z} {k : Nat} {i : Ins} (h : okN z k i) : i.legs.length ≤ 4 := h.2.2
theorem okQ.n {n : Nat} {z : Z} (h : okQ n z) {k : Nat} (hk : k < z.ins.length) : okN z k (z.at k) := ⟨by have := h.len; omega, (h.oki _ (at_mem hk)).lg, (h.oki _ (at_mem hk)).len.2⟩
theorem okN.net {z : Z} {k : Nat} {i : Ins} (h : okN z k i) (P : Nat) : -4000000000000000 ≤ i.net z.fc P ∧ i.net z.fc P ≤ 4000000000000000 := by
  have aux : ∀ (ls : List Leg), (∀ l ∈ ls, okL z l) → -(1000000000000000 * (ls.length : Int)) ≤ netL z.fc P ls ∧ netL z.fc P ls ≤ 1000000000000000 * (ls.length : Int) := by
    intro ls
    induction ls with
    | nil => intro _; exact ⟨Int.le_refl _, Int.le_refl _⟩
    | cons l ls ih =>
      intro hl
      rw [netL_cons, List.length_cons]
      have h1 := ih (fun x hx => hl x (List.mem_cons_of_mem _ hx))
      have h2 := (hl l List.mem_cons_self).v
      have h3 : -(1000000000000000 : Int) ≤ legN z.fc P l ∧ legN z.fc P l ≤ 1000000000000000 := by
        unfold legN
        repeat' split
        all_goals omega
      omega
  have h1 := aux i.legs h.lg
  have h2 := h.len
  unfold Ins.net
  omega
theorem d_touchTaken_loop {z : Z} (hX : okX z) {k : Nat} {i : Ins} (hN : okN z k i) {ks : List Nat} (hks : ∀ P ∈ ks, P < 81920) (hkl : ks.length ≤ 16) : ∀ (d fu j : Nat) (s : mS) (tl : List Nat), MB s z → MI s k i → KS s ks → MT s tl → tl.Nodup → (∀ P ∈ tl, P < 81920) → tl.length + (ks.length - j) ≤ 4095 → ks.length - j = d → d < fu → j ≤ ks.length → ∃ tl' s', l_Mo_touchTaken_8 fu (nI k) (nI ks.length) (nI j) s = some s' ∧ MT s' tl' ∧ tl'.Nodup ∧ (∀ P ∈ tl', P < 81920) ∧ tl'.length ≤ tl.length + (ks.length - j) ∧ (∀ P, P ∈ tl' ↔ P ∈ tl ∨ (P ∈ ks.drop j ∧ i.net z.fc P < 0)) ∧ mX [48] [] [56, 58] [] s s' := by
  intro d
  induction d with
  | zero =>
    intro fu j s tl hB hI hK hM hnd hb hl hd hf hj
    obtain ⟨fu, rfl⟩ : ∃ m, fu = m + 1 := ⟨fu - 1, by omega⟩
    unfold l_Mo_touchTaken_8
    rw [if_pos ((nI_le' (by omega) (by omega)).mpr (by omega)), List.drop_eq_nil_of_le (by omega)]
    exact ⟨tl, s, rfl, hM, hnd, hb, by omega, fun P => by simp, mX.rf⟩
  | succ d ih =>
    intro fu j s tl hB hI hK hM hnd hb hl hd hf hj
    obtain ⟨fu, rfl⟩ : ∃ m, fu = m + 1 := ⟨fu - 1, by omega⟩
    have hjl : j < ks.length := by omega
    have hQ := List.getElem?_eq_getElem hjl
    generalize hg : ks[j] = Q at hQ
    have hQb := hks Q (List.mem_of_getElem? hQ)
    have hdr : ks.drop j = Q :: ks.drop (j + 1) := by rw [List.drop_eq_getElem_cons hjl, hg]
    have hnb := hN.net Q
    unfold l_Mo_touchTaken_8
    rw [if_neg (fun q => by have := (nI_le' (by omega) (by omega)).mp q; omega), ixI (show j < 16 by omega) (by omega), Option.bind_some, hK j Q hQ, d_net hB hX hI hN.lt hN.lg hN.len hQb, Option.bind_some, lI_0]
    by_cases hq : i.net z.fc Q < 0
    · rw [if_neg (fun q => by have := (cmp_ge0 (by omega) (by omega)).mp q; omega)]
      obtain ⟨s1, e1, M1, x1⟩ := d_touch hM (by omega) hQb
      rw [e1, Option.bind_some, Option.bind_some, nI_add1]
      have l1 := len_addK tl Q
      obtain ⟨tl', s', r1, r2, r3, r4, r5, r6, r7⟩ := ih fu (j + 1) s1 (addK tl Q) (hB.x x1 (by decide) (by decide) (by decide)) (hI.x x1 (by decide) (by decide)) (fun a b c => (x1.eA 57 (by decide) a).trans (hK a b c)) M1 (nodup_addK hnd) (fun P hP => by rcases mem_addK.mp hP with h | h; exact hb P h; rw [h]; exact hQb) (by omega) (by omega) (by omega) (by omega)
      refine ⟨tl', s', r1, r2, r3, r4, by omega, fun P => ?_, x1.tr r7⟩
      rw [r6, mem_addK, hdr, List.mem_cons]
      constructor
      · rintro ((h | h) | ⟨h1, h2⟩)
        · exact Or.inl h
        · exact Or.inr ⟨Or.inl h, by rw [h]; exact hq⟩
        · exact Or.inr ⟨Or.inr h1, h2⟩
      · rintro (h | ⟨h1 | h1, h2⟩)
        · exact Or.inl (Or.inl h)
        · exact Or.inl (Or.inr h1)
        · exact Or.inr ⟨h1, h2⟩
    · rw [if_pos ((cmp_ge0 (by omega) (by omega)).mpr (by omega)), Option.bind_some, nI_add1]
      obtain ⟨tl', s', r1, r2, r3, r4, r5, r6, r7⟩ := ih fu (j + 1) s tl hB hI hK hM hnd hb (by omega) (by omega) (by omega) (by omega)
      refine ⟨tl', s', r1, r2, r3, r4, by omega, fun P => ?_, r7⟩
      rw [r6, hdr, List.mem_cons]
      constructor
      · rintro (h | ⟨h1, h2⟩)
        · exact Or.inl h
        · exact Or.inr ⟨Or.inr h1, h2⟩
      · rintro (h | ⟨h1 | h1, h2⟩)
        · exact Or.inl h
        · rw [h1] at h2; exact absurd h2 hq
        · exact Or.inr ⟨h1, h2⟩
theorem isK.lt {z : Z} (hX : okX z) {k : Nat} {i : Ins} (hN : okN z k i) {ks : List Nat} (h : isK z i.legs ks) : ∀ P ∈ ks, P < 81920 := by
  intro P hP
  obtain ⟨l, h1, h2⟩ := List.mem_flatMap.mp ((h.mem P).mp hP).1
  exact legP_lt hX (hN.lg l h1) h2
theorem isK.tks {z : Z} {i : Ins} {ks : List Nat} (h : isK z i.legs ks) (P : Nat) : (P ∈ ks ∧ i.net z.fc P < 0) ↔ z.tks i P = true := by
  rw [tks_iff, h.mem]
  constructor
  · rintro ⟨⟨h1, h2⟩, h3⟩; exact ⟨h3, h2⟩
  · rintro ⟨h1, h2⟩; exact ⟨⟨net_mem (i := i) (by omega), h2⟩, h1⟩
theorem d_touchTaken {s : mS} {z : Z} (hB : MB s z) (hX : okX z) (hlim : ∀ k, inL (z.lim k)) {k : Nat} {i : Ins} (hI : MI s k i) (hN : okN z k i) {tl : List Nat} (hM : MT s tl) (hnd : tl.Nodup) (hb : ∀ P ∈ tl, P < 81920) (hl : tl.length ≤ 4079) : ∃ tl' s', d_Mo_touchTaken (nI k) s = some s' ∧ MT s' tl' ∧ tl'.Nodup ∧ (∀ P ∈ tl', P < 81920) ∧ tl'.length ≤ tl.length + 16 ∧ (∀ P, P ∈ tl' ↔ P ∈ tl ∨ z.tks i P = true) ∧ mX [48] [] [56, 57, 58] [] s s' := by
  obtain ⟨ks, s1, e1, K1, k1, l1, x1⟩ := d_places hB hX hlim hI hN.lt hN.lg hN.len
  unfold d_Mo_touchTaken
  rw [e1, Option.bind_some]
  obtain ⟨tl', s', r1, r2, r3, r4, r5, r6, r7⟩ := d_touchTaken_loop hX hN (k1.lt hX hN) l1 _ 100000 0 s1 tl (hB.x x1 (by decide) (by decide) (by decide)) (hI.x x1 (by decide) (by decide)) K1 (hM.x x1 (by decide) (by decide)) hnd hb (by omega) rfl (by omega) (by omega)
  rw [show l_Mo_touchTaken_8 100000 (nI k) (nI ks.length) 0 s1 = some s' from r1]
  refine ⟨tl', s', rfl, r2, r3, r4, by omega, fun P => ?_, (x1.mono (by simp) (by simp) (by simp) (by simp)).tr (r7.mono (by simp) (by simp) (by simp) (by simp))⟩
  rw [r6, List.drop_zero, k1.tks]
