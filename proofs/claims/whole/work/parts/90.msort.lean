/-! The reference sorts its queue. -/
def insD : Ins := ⟨0, [], 0, 0, [], []⟩
def Z.at (z : Z) (k : Nat) : Ins := z.ins.getD k insD
theorem at_some {z : Z} {k : Nat} (h : k < z.ins.length) : z.ins[k]? = some (z.at k) := by
  unfold Z.at
  rw [List.getD_eq_getElem?_getD, List.getElem?_eq_getElem h]; rfl
theorem at_eq {z : Z} {k : Nat} {i : Ins} (h : z.ins[k]? = some i) : z.at k = i := by
  unfold Z.at
  rw [List.getD_eq_getElem?_getD, h]; rfl
theorem at_mem {z : Z} {k : Nat} (h : k < z.ins.length) : z.at k ∈ z.ins := List.mem_of_getElem? (at_some h)
theorem ahd_tr {i j k : Ins} (h1 : ahd i j) (h2 : ahd j k) : ahd i k := by
  unfold ahd at *; omega
theorem ahd_ir {i j : Ins} (h1 : ahd i j) (h2 : ahd j i) : False := by
  unfold ahd at *; omega
def okQ (n : Nat) (z : Z) : Prop := (z.ins.length ≤ 250) ∧ (∀ i ∈ z.ins, okI z i) ∧ (z.ins.Pairwise fun i j => i.wt = true → j.wt = true → i.tn ≠ j.tn) ∧ (z.ins.Pairwise fun i j => ¬ (i.who = j.who ∧ i.nm = j.nm)) ∧ (z.turns ≤ n)
theorem okQ.len {n : Nat} {z : Z} (h : okQ n z) : z.ins.length ≤ 250 := h.1
theorem okQ.oki {n : Nat} {z : Z} (h : okQ n z) : ∀ i ∈ z.ins, okI z i := h.2.1
theorem okQ.tns {n : Nat} {z : Z} (h : okQ n z) : z.ins.Pairwise fun i j => i.wt = true → j.wt = true → i.tn ≠ j.tn := h.2.2.1
theorem okQ.unq {n : Nat} {z : Z} (h : okQ n z) : z.ins.Pairwise fun i j => ¬ (i.who = j.who ∧ i.nm = j.nm) := h.2.2.2.1
theorem okQ.turns {n : Nat} {z : Z} (h : okQ n z) : z.turns ≤ n := h.2.2.2.2
theorem okZ.q {n : Nat} {z : Z} (h : okZ n z) : okQ n z := ⟨h.ins, h.oki, h.tns, h.unq, h.turns⟩
/-- of two that wait one is ahead -/
theorem ahd_tot {n : Nat} {z : Z} (h : okQ n z) {x y : Nat} (hx : x < z.ins.length) (hy : y < z.ins.length) (hn : x ≠ y) (wx : (z.at x).wt = true) (wy : (z.at y).wt = true) (ha : ¬ ahd (z.at x) (z.at y)) : ahd (z.at y) (z.at x) := by
  have e : (z.at x).tn ≠ (z.at y).tn := by
    have hp := List.pairwise_iff_getElem.mp h.tns
    have ex : z.ins[x] = z.at x := Option.some.inj ((List.getElem?_eq_getElem hx).symm.trans (at_some hx))
    have ey : z.ins[y] = z.at y := Option.some.inj ((List.getElem?_eq_getElem hy).symm.trans (at_some hy))
    rcases Nat.lt_or_gt_of_ne hn with q | q
    · have := hp x y hx hy q
      rw [ex, ey] at this
      exact this wx wy
    · have := hp y x hy hx q
      rw [ex, ey] at this
      exact fun z => this wy wx z.symm
  unfold ahd at *
  omega
theorem d_ahead {n : Nat} {s : mS} {z : Z} (hQ : MQu s z) (hO : okQ n z) (hn : n ≤ 512) {x y : Nat} (hx : x < z.ins.length) (hy : y < z.ins.length) : d_Mo_isAhead (nI x) (nI y) s = some (b2i (decide (ahd (z.at x) (z.at y)))) := by
  have hl := hO.len
  have ix := hQ.ins x _ (at_some hx)
  have iy := hQ.ins y _ (at_some hy)
  have ox := hO.oki _ (at_mem hx)
  have oy := hO.oki _ (at_mem hy)
  have t1 := ox.tn
  have t2 := oy.tn
  have t3 := hO.turns
  have p1 := ox.pr
  have p2 := oy.pr
  unfold d_Mo_isAhead
  rw [ixI (show x < 250 by omega) (by omega), Option.bind_some, ixI (show y < 250 by omega) (by omega), Option.bind_some, ix.pr, iy.pr, ix.tn, iy.tn]
  by_cases h1 : (z.at x).pr = (z.at y).pr
  · rw [if_pos (by rw [h1])]
    by_cases h2 : (z.at x).tn < (z.at y).tn
    · rw [if_neg (fun q => by have := (cmp_ge0 (by omega) (by omega)).mp q; omega), decide_eq_true (show ahd _ _ from Or.inr ⟨h1, h2⟩)]; rfl
    · rw [if_pos ((cmp_ge0 (by omega) (by omega)).mpr (by omega)), decide_eq_false (show ¬ ahd _ _ from fun q => by unfold ahd at q; omega)]; rfl
  · rw [if_neg (fun q => h1 (nI_inj (by omega) (by omega) q))]
    by_cases h2 : (z.at x).pr < (z.at y).pr
    · rw [if_neg (fun q => by have := (nI_le' (by omega) (by omega)).mp q; omega), decide_eq_true (show ahd _ _ from Or.inl h2)]; rfl
    · rw [if_pos ((nI_le' (by omega) (by omega)).mpr (by omega)), decide_eq_false (show ¬ ahd _ _ from fun q => by unfold ahd at q; omega)]; rfl
theorem d_sort32 {n : Nat} {z : Z} (hO : okQ n z) (hn : n ≤ 512) {x : Nat} (hx : x < z.ins.length) : ∀ (p fu : Nat) (l1 l2 : List Nat) (s : mS), MQu s z → l1.length = p → p < fu → l1.length + l2.length < 250 → (∀ y ∈ l1, y < z.ins.length) → (∀ (j k : Nat), l1[j]? = some k → s.2.2.1 55 j = nI k) → (∀ (j k : Nat), l2[j]? = some k → s.2.2.1 55 (p + 1 + j) = nI k) → ∃ a b s', l_Mo_sort_32 fu (nI x) (nI p) s = some (nI a.length, s') ∧ l1 = a ++ b ∧ (∀ y ∈ b, ahd (z.at x) (z.at y)) ∧ (∀ y, a.getLast? = some y → ¬ ahd (z.at x) (z.at y)) ∧ (∀ (j k : Nat), a[j]? = some k → s'.2.2.1 55 j = nI k) ∧ (∀ (j k : Nat), (b ++ l2)[j]? = some k → s'.2.2.1 55 (a.length + 1 + j) = nI k) ∧ mX [] [] [55] [] s s' := by
  intro p
  induction p with
  | zero =>
    intro fu l1 l2 s hQ h1 hf hl hb ha1 ha2
    obtain ⟨fu, rfl⟩ : ∃ m, fu = m + 1 := ⟨fu - 1, by omega⟩
    have : l1 = [] := List.length_eq_zero_iff.mp h1
    subst this
    unfold l_Mo_sort_32
    rw [if_pos (by decide)]
    exact ⟨[], [], s, rfl, rfl, fun y h => by simp at h, fun y h => by simp at h, ha1, ha2, mX.rf⟩
  | succ p ih =>
    intro fu l1 l2 s hQ h1 hf hl hb ha1 ha2
    obtain ⟨fu, rfl⟩ : ∃ m, fu = m + 1 := ⟨fu - 1, by omega⟩
    have hne : l1 ≠ [] := fun q => by rw [q] at h1; cases h1
    obtain ⟨l0, y, rfl⟩ : ∃ l0 y, l1 = l0 ++ [y] := ⟨l1.dropLast, l1.getLast hne, (List.dropLast_concat_getLast hne).symm⟩
    rw [List.length_append, List.length_singleton] at h1 hl
    have hy := hb y (by simp)
    have e1 : s.2.2.1 55 p = nI y := ha1 p y (by rw [List.getElem?_append_right (by omega), show p - l0.length = 0 by omega]; rfl)
    unfold l_Mo_sort_32
    rw [if_neg (fun q => by have := (nI_le' (a := p + 1) (b := 0) (by omega) (by omega)).mp q; omega), show nI (p + 1) - 1 = nI p by rw [show (1 : Int32) = nI 1 from rfl, nI_sub' (by omega)]; rfl, ixI (show p < 250 by omega) (by omega), Option.bind_some, e1, d_ahead hQ hO hn hx hy, Option.bind_some]
    by_cases hq : ahd (z.at x) (z.at y)
    · rw [decide_eq_true hq, if_neg (show ¬ b2i true = 0 by decide), ixI (show p + 1 < 250 by omega) (by omega), Option.bind_some, show nI (p + 1) + (-1) = nI p by
        rw [← Int32.sub_eq_add_neg, show (1 : Int32) = nI 1 from rfl, nI_sub' (by omega)]; rfl]
      have x1 : mX [] [] [55] [] s (mA s 55 (p + 1) (nI y)) := mX.rf.A (by decide)
      obtain ⟨a, b, s', r1, r2, r3, r4, r5, r6, r7⟩ := ih fu l0 (y :: l2) (mA s 55 (p + 1) (nI y)) (hQ.x x1 (by decide) (by decide) (by decide) (by decide)) (by omega) (by omega) (by simp; omega) (fun w hw => hb w (by simp [hw])) (fun j k hj => by
          have hj2 : j < l0.length := (List.getElem?_eq_some_iff.mp hj).1
          rw [mA_get, if_pos rfl, if_neg (by omega)]
          exact ha1 j k (by rw [List.getElem?_append_left hj2]; exact hj)) (fun j k hj => by
          rw [mA_get, if_pos rfl]
          cases j with
          | zero => rw [if_pos (by omega)]; cases hj; rfl
          | succ j =>
            rw [if_neg (by omega), show p + 1 + (j + 1) = p + 1 + 1 + j by omega]
            exact ha2 j k hj)
      refine ⟨a, b ++ [y], s', r1, by rw [r2, List.append_assoc], ?_, r4, r5, ?_, x1.tr r7⟩
      · intro w hw
        rcases List.mem_append.mp hw with h | h
        · exact r3 w h
        · rw [List.mem_singleton.mp h]; exact hq
      · rw [List.append_assoc]; exact r6
    · rw [decide_eq_false hq, if_pos (show b2i false = 0 by decide)]
      refine ⟨l0 ++ [y], [], s, by rw [List.length_append, List.length_singleton, h1], by simp, fun w h => by simp at h, ?_, ha1, ?_, mX.rf⟩
      · intro w hw
        rw [List.getLast?_append] at hw
        cases hw; exact hq
      · rw [List.length_append, List.length_singleton, h1, List.nil_append]; exact ha2
/-- the order that stands in the reference's row -/
def OS (s : mS) (o : List Nat) : Prop := s.1 32 = nI o.length ∧ ∀ (j k : Nat), o[j]? = some k → s.2.2.1 55 j = nI k
theorem OS.x {ki kl ka kb : List Nat} {s s' : mS} {o : List Nat} (hM : OS s o) (h : mX ki kl ka kb s s') (h1 : 32 ∉ ki) (h2 : 55 ∉ ka) : OS s' o := ⟨(h.1 _ h1).trans hM.1, fun j k q => (h.eA _ h2 j).trans (hM.2 j k q)⟩
def isO (z : Z) (m : Nat) (o : List Nat) : Prop := (o.Pairwise fun x y => ahd (z.at x) (z.at y)) ∧ (∀ x, x ∈ o ↔ x < m ∧ (z.at x).wt = true)
theorem isO.srt {z : Z} {m : Nat} {o : List Nat} (h : isO z m o) : o.Pairwise fun x y => ahd (z.at x) (z.at y) := h.1
theorem isO.mem {z : Z} {m : Nat} {o : List Nat} (h : isO z m o) : ∀ x, x ∈ o ↔ x < m ∧ (z.at x).wt = true := h.2
theorem isO.nd {z : Z} {m : Nat} {o : List Nat} (h : isO z m o) : o.Nodup := List.nodup_iff_pairwise_ne.mpr (h.srt.imp fun {a b} (q : ahd (z.at a) (z.at b)) (e : a = b) => ahd_ir q (by rw [e] at q ⊢; exact q))
theorem isO.len {z : Z} {m : Nat} {o : List Nat} (h : isO z m o) : o.length ≤ m := by
  have : o ⊆ List.range m := fun x hx => List.mem_range.mpr ((h.mem x).mp hx).1
  have := h.nd.length_le_of_subset this
  rw [List.length_range] at this
  exact this
theorem d_sort_loop {n : Nat} {z : Z} (hO : okQ n z) (hn : n ≤ 512) : ∀ (d fu m : Nat) (s : mS) (o : List Nat), MQu s z → z.ins.length - m = d → d < fu → m ≤ z.ins.length → OS s o → isO z m o → ∃ o' s', l_Mo_sort_7 fu (nI m) s = some s' ∧ OS s' o' ∧ isO z z.ins.length o' ∧ mX [32] [] [55] [] s s' := by
  have hl := hO.len
  intro d
  induction d with
  | zero =>
    intro fu m s o hQ hd hf hm hS hI
    obtain ⟨fu, rfl⟩ : ∃ m, fu = m + 1 := ⟨fu - 1, by omega⟩
    unfold l_Mo_sort_7
    rw [hQ.many, if_pos ((nI_le' (by omega) (by omega)).mpr (by omega))]
    exact ⟨o, s, rfl, hS, by rw [show z.ins.length = m by omega]; exact hI, mX.rf⟩
  | succ d ih =>
    intro fu m s o hQ hd hf hm hS hI
    obtain ⟨fu, rfl⟩ : ∃ m, fu = m + 1 := ⟨fu - 1, by omega⟩
    have hml : m < z.ins.length := by omega
    have hMI := hQ.ins m _ (at_some hml)
    unfold l_Mo_sort_7
    rw [hQ.many, if_neg (fun q => by have := (nI_le' (by omega) (by omega)).mp q; omega), ixI (show m < 250 by omega) (by omega), Option.bind_some, hMI.wt]
    by_cases hw : (z.at m).wt = true
    · have hol := hI.len
      rw [if_pos (b2i_ne0.mpr hw), hS.1]
      obtain ⟨a, b, s1, r1, r2, r3, r4, r5, r6, r7⟩ := d_sort32 hO hn hml o.length 100000 o [] s hQ rfl (by omega) (by simp; omega) (fun y hy => by have := ((hI.mem y).mp hy).1; omega) hS.2 (fun j k h => by simp at h)
      have hab : a.length + b.length = o.length := by rw [r2, List.length_append]
      rw [r1, Option.bind_some, ixI (show a.length < 250 by omega) (by omega), Option.bind_some, Option.bind_some, nI_add1]
      have x1 : mX [32] [] [55] [] s (mI (mA s1 55 a.length (nI m)) 32 ((s1.1 32) + 1)) := ((r7.mono (by simp) (by simp) (by simp) (by simp)).A (by decide)).I (by decide)
      have hal : ∀ y ∈ a, ahd (z.at y) (z.at m) := by
        intro y hy
        have hya : y ∈ o := by rw [r2]; simp [hy]
        obtain ⟨a0, w, rfl⟩ : ∃ a0 w, a = a0 ++ [w] := by
          have hne : a ≠ [] := fun q => by rw [q] at hy; simp at hy
          exact ⟨a.dropLast, a.getLast hne, (List.dropLast_concat_getLast hne).symm⟩
        have hw1 : w ∈ o := by rw [r2]; simp
        have hlast := r4 w (by rw [List.getLast?_append]; rfl)
        have hwm := (hI.mem w).mp hw1
        have hwa : ahd (z.at w) (z.at m) := ahd_tot hO hml (by omega) (by omega) hw hwm.2 hlast
        rcases List.mem_append.mp hy with h | h
        · have hs := hI.srt
          rw [r2, List.append_assoc] at hs
          have := (List.pairwise_append.mp hs).2.2 y h w (by simp)
          exact ahd_tr this hwa
        · rw [List.mem_singleton.mp h]; exact hwa
      obtain ⟨o', s', q1, q2, q3, q4⟩ := ih fu (m + 1) _ (a ++ [m] ++ b) (hQ.x x1 (by decide) (by decide) (by decide) (by decide)) (by omega) (by omega) (by omega) ⟨by
          show (s1.1 32) + 1 = _
          rw [r7.1 32 (by decide), hS.1, nI_add1]
          congr 1
          simp; omega, fun j k hj => by
          show (mA s1 55 a.length (nI m)).2.2.1 55 j = nI k
          rw [mA_get, if_pos rfl]
          rw [List.append_assoc] at hj
          by_cases h1 : j < a.length
          · rw [if_neg (by omega)]
            rw [List.getElem?_append_left h1] at hj
            exact r5 j k hj
          · rw [List.getElem?_append_right (by omega)] at hj
            by_cases h2 : j = a.length
            · rw [if_pos h2]
              rw [h2, Nat.sub_self] at hj
              cases hj; rfl
            · rw [if_neg h2]
              obtain ⟨e, he⟩ : ∃ e, j = a.length + 1 + e := ⟨j - a.length - 1, by omega⟩
              rw [he, show a.length + 1 + e - a.length = e + 1 by omega] at hj
              rw [he]
              refine r6 e k ?_
              rw [List.append_nil]; exact hj⟩ ⟨by
          have hs := hI.srt
          rw [r2] at hs
          obtain ⟨s1', s2', s3'⟩ := List.pairwise_append.mp hs
          rw [List.append_assoc]
          refine List.pairwise_append.mpr ⟨s1', List.pairwise_cons.mpr ⟨r3, s2'⟩, fun y hy w hw2 => ?_⟩
          rcases List.mem_cons.mp hw2 with h | h
          · rw [h]; exact hal y hy
          · exact s3' y hy w h, fun y => by
          have := hI.mem y
          rw [r2] at this
          simp only [List.mem_append, List.mem_singleton] at this ⊢
          constructor
          · rintro ((h | h) | h)
            · have := this.mp (Or.inl h); exact ⟨by omega, this.2⟩
            · rw [h]; exact ⟨by omega, hw⟩
            · have := this.mp (Or.inr h); exact ⟨by omega, this.2⟩
          · rintro ⟨h1, h2⟩
            by_cases e : y = m
            · exact Or.inl (Or.inr e)
            · rcases this.mpr ⟨by omega, h2⟩ with h | h
              · exact Or.inl (Or.inl h)
              · exact Or.inr h⟩
      exact ⟨o', s', q1, q2, q3, x1.tr q4⟩
    · rw [if_neg (fun q => q (b2i_eq0.mpr (by simpa using hw))), Option.bind_some, nI_add1]
      refine ih fu (m + 1) s o hQ (by omega) (by omega) (by omega) hS ⟨hI.srt, fun y => ?_⟩
      rw [hI.mem]
      constructor
      · rintro ⟨h1, h2⟩; exact ⟨by omega, h2⟩
      · rintro ⟨h1, h2⟩
        refine ⟨?_, h2⟩
        by_cases e : y = m
        · rw [e] at h2; exact absurd h2 hw
        · omega
theorem d_sort {n : Nat} {s : mS} {z : Z} (hQ : MQu s z) (hO : okQ n z) (hn : n ≤ 512) : ∃ o s', d_Mo_sort s = some s' ∧ OS s' o ∧ isO z z.ins.length o ∧ mX [32] [] [55] [] s s' := by
  have hl := hO.len
  have x0 : mX [32] [] [55] [] s (mI s 32 0) := mX.rf.I (by decide)
  obtain ⟨o, s', h1, h2, h3, h4⟩ := d_sort_loop hO hn _ 100000 0 (mI s 32 0) [] (hQ.x x0 (by decide) (by decide) (by decide) (by decide)) rfl (by omega) (by omega) ⟨rfl, fun j k h => by simp at h⟩ ⟨List.Pairwise.nil, fun x => by simp⟩
  unfold d_Mo_sort
  rw [show (0 : Int32) = nI 0 from rfl]
  rw [show l_Mo_sort_7 100000 (nI 0) (mI s 32 (nI 0)) = some s' from h1]
  exact ⟨o, s', rfl, h2, h3, x0.tr h4⟩
theorem isO.q {z : Z} {o : List Nat} (h : isO z z.ins.length o) : z.isq (o.map z.at) := by
  refine ⟨List.pairwise_map.mpr h.srt, fun i => ?_⟩
  rw [List.mem_map]
  constructor
  · rintro ⟨k, hk, rfl⟩
    have := (h.mem k).mp hk
    exact ⟨at_mem this.1, this.2⟩
  · rintro ⟨h1, h2⟩
    obtain ⟨k, hk⟩ := List.mem_iff_getElem?.mp h1
    have := at_eq hk
    refine ⟨k, (h.mem k).mpr ⟨(List.getElem?_eq_some_iff.mp hk).1, ?_⟩, this⟩
    rw [this]; exact h2
