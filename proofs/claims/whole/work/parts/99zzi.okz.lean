/-! The instructions change. -/
theorem okI.mono {z z' : Z} {i : Ins} (h : okI z i) (e1 : z'.mem.length = z.mem.length) (e2 : z'.ast.length = z.ast.length) (e3 : z.turns ≤ z'.turns) : okI z' i := ⟨by rw [e1]; exact h.who, h.nm, h.pr, by have := h.tn; omega, h.len, fun l hl => by
  have w := h.lg l hl
  exact ⟨by rw [e1]; exact w.f, by rw [e1]; exact w.t, by rw [e2]; exact w.a, w.f0, w.t0, w.ft, w.v0, w.v⟩⟩
theorem tot_le {ls : List Leg} (hv : ∀ l ∈ ls, l.v < 1000000000000000) : (ls.map Leg.v).sum ≤ 1000000000000000 * ls.length := by
  induction ls with
  | nil => simp
  | cons l ls ih =>
    have h1 := hv l (by simp)
    have h2 := ih (fun m hm => hv m (by simp [hm]))
    rw [List.map_cons, List.sum_cons, List.length_cons]
    omega
theorem okZ.app {n : Nat} {z : Z} (h : okZ n z) {i : Ins} {T : Nat} (hT : z.turns ≤ T ∧ T ≤ n + 1) (hi : okI (z.wIT (z.ins ++ [i]) T) i) (hu : ∀ j ∈ z.ins, ¬ (j.who = i.who ∧ j.nm = i.nm)) (ht : i.wt = true → ∀ j ∈ z.ins, j.tn < i.tn) (hl : z.ins.length < 250) : okZ (n + 1) (z.wIT (z.ins ++ [i]) T) := by
  have hb := big_s n
  have up := h.up
  have it : i.tot ≤ 4000000000000000 := by
    have h1 := tot_le (ls := i.legs) (fun l hl => (hi.lg l hl).v)
    have h2 := hi.len
    show (i.legs.map Leg.v).sum ≤ _
    omega
  have tt : (z.wIT (z.ins ++ [i]) T).tot = z.tot + i.tot := by
    show ((z.ins ++ [i]).map Ins.tot).sum = (z.ins.map Ins.tot).sum + i.tot
    rw [List.map_append, List.sum_append]; simp
  have il : (z.wIT (z.ins ++ [i]) T).ins.length = z.ins.length + 1 := by
    show (z.ins ++ [i]).length = _
    rw [List.length_append]; rfl
  refine ⟨up.mem, up.cod, up.ast, up.acd, up.fc, by rw [tt]; have := h.tot; omega, fun P => ?_, up.beg, fun P => ?_, fun P => ?_, up.pl, fun P => by rw [il]; have := h.mv P; show z.mv P + _ ≤ _; omega, fun k => ?_, up.lim, up.lims, by omega, fun j hj => ?_, ?_, ?_, hT.2, up.tick, up.out, up.outr, up.bank, up.mpl, up.crd⟩
  · rw [tt]
    have := h.pos P
    show -(big (n + 1)) ≤ z.pos P - _ ∧ z.pos P + _ ≤ big (n + 1)
    omega
  · rw [tt]
    have := h.wnt P
    show 0 ≤ z.wnt P ∧ z.wnt P + _ ≤ big (n + 1)
    omega
  · rw [tt]
    have := h.cam P
    show 0 ≤ z.cam P ∧ z.cam P + _ ≤ big (n + 1)
    omega
  · rw [tt]
    have := h.paid k
    show -(big (n + 1)) ≤ z.paid k - _ ∧ z.paid k + _ ≤ big (n + 1)
    omega
  · have hj' : j ∈ z.ins ++ [i] := hj
    rcases List.mem_append.mp hj' with q | q
    · exact (h.oki j q).mono rfl rfl hT.1
    · rw [List.mem_singleton] at q; rw [q]; exact hi
  · show (z.ins ++ [i]).Pairwise _
    rw [List.pairwise_append]
    exact ⟨h.unq, List.pairwise_singleton _ _, fun j hj k hk => by rw [List.mem_singleton] at hk; rw [hk]; exact hu j hj⟩
  · show (z.ins ++ [i]).Pairwise _
    rw [List.pairwise_append]
    exact ⟨h.tns, List.pairwise_singleton _ _, fun j hj k hk _ hw => by rw [List.mem_singleton] at hk; rw [hk] at hw ⊢; have := ht hw j hj; omega⟩
theorem okZ.uni {n : Nat} {z : Z} (h : okZ n z) {i j : Ins} (hi : i ∈ z.ins) (hj : j ∈ z.ins) (h1 : i.who = j.who) (h2 : i.nm = j.nm) : i = j := by
  have := h.unq
  obtain ⟨a, ha⟩ := List.mem_iff_getElem?.mp hi
  obtain ⟨b, hb⟩ := List.mem_iff_getElem?.mp hj
  obtain ⟨ha1, ha2⟩ := List.getElem?_eq_some_iff.mp ha
  obtain ⟨hb1, hb2⟩ := List.getElem?_eq_some_iff.mp hb
  rw [List.pairwise_iff_getElem] at this
  by_cases c : a < b
  · exact absurd ⟨by rw [ha2, hb2]; exact h1, by rw [ha2, hb2]; exact h2⟩ (this a b ha1 hb1 c)
  · by_cases c2 : b < a
    · exact absurd ⟨by rw [ha2, hb2]; exact h1.symm, by rw [ha2, hb2]; exact h2.symm⟩ (this b a hb1 ha1 c2)
    · have : a = b := by omega
      subst this
      rw [ha] at hb
      cases hb; rfl
theorem okZ.rep {n : Nat} {z : Z} (h : okZ n z) {i i' : Ins} {T : Nat} (hi : i ∈ z.ins) (h1 : i'.who = i.who) (h2 : i'.nm = i.nm) (h3 : i'.legs = i.legs) (hT : z.turns ≤ T ∧ T ≤ n + 1) (hp : 1 ≤ i'.pr ∧ i'.pr ≤ 9) (hn : i'.tn ≤ T) (ht : i'.wt = true → ∀ j ∈ z.ins, j.tn < i'.tn) : okZ (n + 1) (z.wIT (repL i' z.ins) T) := by
  have up := h.up
  have key : ∀ j ∈ z.ins, sameK i' j = true → j = i := fun j hj q => by
    obtain ⟨q1, q2⟩ := sameK_iff.mp q
    exact h.uni hj hi (by rw [← q1, h1]) (by rw [← q2, h2])
  have fk : ∀ j, (if sameK i' j then i' else j).who = j.who ∧ (if sameK i' j then i' else j).nm = j.nm := fun j => by
    by_cases c : sameK i' j = true
    · rw [if_pos c]; exact sameK_iff.mp c
    · rw [if_neg c]; exact ⟨rfl, rfl⟩
  have tt : (z.wIT (repL i' z.ins) T).tot = z.tot := by
    show ((repL i' z.ins).map Ins.tot).sum = (z.ins.map Ins.tot).sum
    unfold repL
    rw [List.map_map]
    congr 1
    refine List.map_congr_left (fun j hj => ?_)
    show (if sameK i' j then i' else j).tot = j.tot
    by_cases c : sameK i' j = true
    · rw [if_pos c, key j hj c]
      unfold Ins.tot
      rw [h3]
    · rw [if_neg c]
  have il : (z.wIT (repL i' z.ins) T).ins.length = z.ins.length := rep_len _ _
  refine ⟨up.mem, up.cod, up.ast, up.acd, up.fc, by rw [tt]; exact up.tot, fun P => by rw [tt]; exact up.pos P, up.beg, fun P => by rw [tt]; exact up.wnt P, fun P => by rw [tt]; exact up.cam P, up.pl, fun P => by rw [il]; exact up.mv P, fun k => by rw [tt]; exact up.paid k, up.lim, up.lims, by rw [il]; exact up.ins, fun j hj => ?_, ?_, ?_, hT.2, up.tick, up.out, up.outr, up.bank, up.mpl, up.crd⟩
  · have hj' : j ∈ repL i' z.ins := hj
    unfold repL at hj'
    obtain ⟨k, k1, k2⟩ := List.mem_map.mp hj'
    by_cases c : sameK i' k = true
    · rw [if_pos c] at k2
      rw [← k2]
      have o := h.oki i hi
      exact ⟨by rw [h1]; exact o.who, by rw [h2]; exact o.nm, hp, hn, by rw [h3]; exact o.len, by rw [h3]; exact o.lg⟩
    · rw [if_neg c] at k2
      rw [← k2]
      exact (h.oki k k1).mono rfl rfl hT.1
  · show (repL i' z.ins).Pairwise _
    unfold repL
    rw [List.pairwise_map]
    refine h.unq.imp (fun {a b} q => ?_)
    rw [(fk a).1, (fk a).2, (fk b).1, (fk b).2]
    exact q
  · show (repL i' z.ins).Pairwise _
    unfold repL
    rw [List.pairwise_map]
    refine (h.tns.and h.unq).imp_of_mem (fun {a b} ha hb q => ?_)
    by_cases c1 : sameK i' a = true
    · rw [if_pos c1]
      by_cases c2 : sameK i' b = true
      · exact absurd ⟨by rw [key a ha c1, key b hb c2], by rw [key a ha c1, key b hb c2]⟩ q.2
      · rw [if_neg c2]
        intro w1 _
        have := ht w1 b hb
        omega
    · rw [if_neg c1]
      by_cases c2 : sameK i' b = true
      · rw [if_pos c2]
        intro _ w2
        have := ht w2 a ha
        omega
      · rw [if_neg c2]; exact q.1
theorem sum_filter_le {f : Ins → Nat} {p : Ins → Bool} : ∀ L : List Ins, ((L.filter p).map f).sum ≤ (L.map f).sum := by
  intro L
  induction L with
  | nil => exact Nat.le_refl _
  | cons a l ih =>
    rw [List.filter_cons]
    split
    · rw [List.map_cons, List.sum_cons, List.map_cons, List.sum_cons]; omega
    · rw [List.map_cons, List.sum_cons]; omega
theorem okZ.fil {n : Nat} {z : Z} (h : okZ n z) (f : Ins → Bool) : okZ n (z.wIns (z.ins.filter f)) := by
  have tt : (z.wIns (z.ins.filter f)).tot ≤ z.tot := sum_filter_le z.ins
  have il : (z.wIns (z.ins.filter f)).ins.length ≤ z.ins.length := List.length_filter_le _ _
  refine ⟨h.mem, h.cod, h.ast, h.acd, h.fc, by have := h.tot; omega, fun P => ?_, h.beg, fun P => ?_, fun P => ?_, h.pl, fun P => by have := h.mv P; show z.mv P + _ ≤ _; omega, fun k => ?_, h.lim, h.lims, by have := h.ins; omega, fun j hj => h.oki j (List.mem_filter.mp hj).1, h.unq.filter _, h.tns.filter _, h.turns, h.tick, h.out, h.outr, h.bank, h.mpl, h.crd⟩
  · have := h.pos P
    show -(big n) ≤ z.pos P - _ ∧ z.pos P + _ ≤ big n
    omega
  · have := h.wnt P
    show 0 ≤ z.wnt P ∧ z.wnt P + _ ≤ big n
    omega
  · have := h.cam P
    show 0 ≤ z.cam P ∧ z.cam P + _ ≤ big n
    omega
  · have := h.paid k
    show -(big n) ≤ z.paid k - _ ∧ z.paid k + _ ≤ big n
    omega
