/-! The class: all are sent back. -/
def TL (S : hS) (z : Z) (g : hG) (es : List (Ins × Bool)) : Prop := S.2.1 1105 16 = nI es.length ∧ ∀ (j : Nat) (e : Ins × Bool), es[j]? = some e → S.2.2.2.2.2.2 19 j = some (g.xi e.1) ∧ S.2.1 704 (g.xi e.1) = (if e.2 then 2 else 3) ∧ HE S z.mem (g.xi e.1) e.1
abbrev eX (S S' : hS) : Prop := hX [704, 1105] [] [] [] [] [19] S S'
theorem TL.en {S : hS} {z : Z} {g : hG} {es : List (Ins × Bool)} {i : Ins} (h : TL S z g es) (hl : es.length < 250) (hE' : HE S z.mem (g.xi i) i) (hd : ∀ e ∈ es, g.xi e.1 ≠ g.xi i) : ∃ S', h_Qu_end (g.xi i) 3 S = some S' ∧ TL S' z g (es ++ [(i, false)]) ∧ eX S S' := by
  obtain ⟨S1, a1, a2, a3, a4, a5, a6, a7⟩ := h_end (S := S) (x := g.xi i) (v := 3) h.1 hl
  refine ⟨S1, a1, ⟨by rw [a2, List.length_append, List.length_singleton], fun j e he => ?_⟩, a7⟩
  rw [List.getElem?_append] at he
  by_cases hj : j < es.length
  · rw [if_pos hj] at he
    obtain ⟨b1, b2, b3⟩ := h.2 j e he
    exact ⟨(a6 j (by omega)).trans b1, (a4 _ (hd e (List.mem_of_getElem? he))).trans b2, b3.x a7 (by decide) (by simp)⟩
  · rw [if_neg hj] at he
    have := get_lt' he
    rw [List.length_singleton] at this
    have hj0 : j - es.length = 0 := by omega
    rw [hj0] at he
    cases he
    have hj1 : j = es.length := by omega
    subst hj1
    exact ⟨a5, a3, hE'.x a7 (by decide) (by simp)⟩
def bck (is : List Ins) : List (Ins × Bool) := is.map fun i => (i, false)
theorem bck_snoc {q : List Ins} {j : Nat} {i : Ins} (h : q[j]? = some i) : bck (q.take (j + 1)) = bck (q.take j) ++ [(i, false)] := by
  unfold bck
  rw [take_snoc h, List.map_append]; rfl
theorem h_back17 {z : Z} {g : hG} {q : List Ins} {es : List (Ins × Bool)} (hdj : ∀ e ∈ es, ∀ i ∈ q, g.xi e.1 ≠ g.xi i) (hpq : q.Pairwise fun i j => g.xi i ≠ g.xi j) (hlen : es.length + q.length ≤ 250) : ∀ (d fu j : Nat) (S : hS), TL S z g (es ++ bck (q.take j)) → S.2.1 1101 16 = nI q.length → (∀ (j : Nat) (i : Ins), q[j]? = some i → S.2.2.2.2.2.2 17 j = some (g.xi i)) → (∀ i ∈ q, HE S z.mem (g.xi i) i) → q.length - j = d → d < fu → j ≤ q.length → ∃ S', hl_Qu_sendAllBack_2 fu (nI j) S = some S' ∧ TL S' z g (es ++ bck q) ∧ eX S S' := by
  intro d
  induction d with
  | zero =>
    intro fu j S h h1 h2 h3 hd hf hj
    obtain ⟨fu, rfl⟩ : ∃ f, fu = f + 1 := ⟨fu - 1, by omega⟩
    rw [List.take_of_length_le (by omega)] at h
    refine ⟨S, ?_, h, hX.rf⟩
    unfold hl_Qu_sendAllBack_2
    rw [h1, if_pos (nI_le0 (by omega) (by omega) (by omega))]
  | succ d ih =>
    intro fu j S h h1 h2 h3 hd hf hj
    obtain ⟨fu, rfl⟩ : ∃ f, fu = f + 1 := ⟨fu - 1, by omega⟩
    obtain ⟨i, hi⟩ := get_lt (ks := q) (j := j) (by omega)
    have hiq := List.mem_of_getElem? hi
    have hbl : (bck (q.take j)).length = j := by unfold bck; rw [List.length_map, List.length_take]; omega
    obtain ⟨S1, a1, a2, a3⟩ := h.en (i := i) (by rw [List.length_append, hbl]; omega) (h3 i hiq) (fun e he => by
      rcases List.mem_append.mp he with c | c
      · exact hdj e c i hiq
      · obtain ⟨k, hk, rfl⟩ := List.mem_map.mp c
        have hp := hpq
        rw [← List.take_append_drop j q, drop_cons hi] at hp
        exact (List.pairwise_append.mp hp).2.2 k hk i List.mem_cons_self)
    rw [List.append_assoc, ← bck_snoc hi] at a2
    obtain ⟨S', b1, b2, b3⟩ := ih fu (j + 1) S1 a2 ((a3.ei _ (by decide) _).trans h1) (fun t k hk => (a3.eq _ (by decide) _).trans (h2 t k hk)) (fun k hk => (h3 k hk).x a3 (by decide) (by simp)) (by omega) (by omega) (by omega)
    refine ⟨S', ?_, b2, a3.tr b3⟩
    unfold hl_Qu_sendAllBack_2
    rw [h1, if_neg (nI_ngt (by omega) (by omega) (by omega)), ix_N (by omega) (by omega), Option.bind_some, h2 j i hi, Option.bind_some, a1, Option.bind_some, nI_add1, b1]
theorem h_back18 {z : Z} {g : hG} {q : List Ins} {es : List (Ins × Bool)} (hdj : ∀ e ∈ es, ∀ i ∈ q, g.xi e.1 ≠ g.xi i) (hpq : q.Pairwise fun i j => g.xi i ≠ g.xi j) (hlen : es.length + q.length ≤ 250) : ∀ (d fu j : Nat) (S : hS), TL S z g (es ++ bck (q.take j)) → S.2.1 1103 16 = nI q.length → (∀ (j : Nat) (i : Ins), q[j]? = some i → S.2.2.2.2.2.2 18 j = some (g.xi i)) → (∀ i ∈ q, HE S z.mem (g.xi i) i) → q.length - j = d → d < fu → j ≤ q.length → ∃ S', hl_Qu_sendAllBack_29 fu (nI j) S = some S' ∧ TL S' z g (es ++ bck q) ∧ eX S S' := by
  intro d
  induction d with
  | zero =>
    intro fu j S h h1 h2 h3 hd hf hj
    obtain ⟨fu, rfl⟩ : ∃ f, fu = f + 1 := ⟨fu - 1, by omega⟩
    rw [List.take_of_length_le (by omega)] at h
    refine ⟨S, ?_, h, hX.rf⟩
    unfold hl_Qu_sendAllBack_29
    rw [h1, if_pos (nI_le0 (by omega) (by omega) (by omega))]
  | succ d ih =>
    intro fu j S h h1 h2 h3 hd hf hj
    obtain ⟨fu, rfl⟩ : ∃ f, fu = f + 1 := ⟨fu - 1, by omega⟩
    obtain ⟨i, hi⟩ := get_lt (ks := q) (j := j) (by omega)
    have hiq := List.mem_of_getElem? hi
    have hbl : (bck (q.take j)).length = j := by unfold bck; rw [List.length_map, List.length_take]; omega
    obtain ⟨S1, a1, a2, a3⟩ := h.en (i := i) (by rw [List.length_append, hbl]; omega) (h3 i hiq) (fun e he => by
      rcases List.mem_append.mp he with c | c
      · exact hdj e c i hiq
      · obtain ⟨k, hk, rfl⟩ := List.mem_map.mp c
        have hp := hpq
        rw [← List.take_append_drop j q, drop_cons hi] at hp
        exact (List.pairwise_append.mp hp).2.2 k hk i List.mem_cons_self)
    rw [List.append_assoc, ← bck_snoc hi] at a2
    obtain ⟨S', b1, b2, b3⟩ := ih fu (j + 1) S1 a2 ((a3.ei _ (by decide) _).trans h1) (fun t k hk => (a3.eq _ (by decide) _).trans (h2 t k hk)) (fun k hk => (h3 k hk).x a3 (by decide) (by simp)) (by omega) (by omega) (by omega)
    refine ⟨S', ?_, b2, a3.tr b3⟩
    unfold hl_Qu_sendAllBack_29
    rw [h1, if_neg (nI_ngt (by omega) (by omega) (by omega)), ix_N (by omega) (by omega), Option.bind_some, h2 j i hi, Option.bind_some, a1, Option.bind_some, nI_add1, b1]
theorem ins_nd {n : Nat} {z : Z} (hO : okQ n z) : z.ins.Nodup := List.nodup_iff_pairwise_ne.mpr (hO.unq.imp fun {a b} h e => h (by rw [e]; exact ⟨rfl, rfl⟩))
theorem isq_nd {z : Z} {q : List Ins} (h : z.isq q) : q.Nodup := List.nodup_iff_pairwise_ne.mpr (h.1.imp fun {a b} (w : ahd a b) (e : a = b) => by rw [e] at w; exact ahd_ir w w)
theorem isq_len {n : Nat} {z : Z} (hO : okQ n z) {q : List Ins} (h : z.isq q) : q.length = (z.ins.filter Ins.wt).length := by
  refine Nat.le_antisymm (List.Nodup.length_le_of_subset (isq_nd h) fun i hi => ?_) (List.Nodup.length_le_of_subset (List.Nodup.sublist List.filter_sublist (ins_nd hO)) fun i hi => ?_)
  · rw [List.mem_filter]; exact (h.2 i).mp hi
  · rw [List.mem_filter] at hi; exact (h.2 i).mpr hi
theorem filt_len (L : List Ins) : (L.filter Ins.wt).length + (L.filter fun i => !i.wt).length = L.length := by
  induction L with
  | nil => rfl
  | cons i L ih =>
    cases h : i.wt with
    | true => rw [List.filter_cons_of_pos h, List.filter_cons_of_neg (by rw [h]; decide), List.length_cons, List.length_cons]; omega
    | false => rw [List.filter_cons_of_neg (by rw [h]; decide), List.filter_cons_of_pos (by rw [h]; rfl), List.length_cons, List.length_cons]; omega
theorem h_sendBack {n : Nat} {S : hS} {z : Z} {g : hG} {q u : List Ins} {L : Nat} {es : List (Ins × Bool)} (h : HZ S z g q u L es) (hO : okZ n z) : ∃ S', h_Qu_sendAllBack S = some S' ∧ HZ S' (z.wIns []) g [] [] L (es ++ bck (q ++ u)) ∧ hX [704, 1105, 1101, 1103] [] [] [] [] [19] S S' := by
  have hfix := h.B.fix
  have hql := isq_len hO.q h.Q.isq
  have hul := filt_len z.ins
  rw [← hql, ← h.Q.isu] at hul
  have hlen := h.O.len
  have uz : ∀ i ∈ u, i ∈ z.ins ∧ i.wt = false := fun i hi => by
    rw [h.Q.isu, List.mem_filter] at hi
    exact ⟨hi.1, by simpa using hi.2⟩
  have qz : ∀ i ∈ q, i ∈ z.ins ∧ i.wt = true := fun i hi => (h.Q.isq.2 i).mp hi
  have xne : ∀ i ∈ z.ins, ∀ j ∈ z.ins, i ≠ j → g.xi i ≠ g.xi j := fun i hi j hj hne c => by
    obtain ⟨a, b⟩ := h.Q.inj i hi j hj c
    exact hne (ins_eq hO.unq hi hj a b)
  have pq : q.Pairwise fun i j => g.xi i ≠ g.xi j := List.Pairwise.imp_of_mem (fun {a b} ha hb hab => xne a (qz a ha).1 b (qz b hb).1 hab) (List.nodup_iff_pairwise_ne.mp (isq_nd h.Q.isq))
  have und : u.Nodup := by rw [h.Q.isu]; exact List.Nodup.sublist List.filter_sublist (ins_nd hO.q)
  have pu : u.Pairwise fun i j => g.xi i ≠ g.xi j := List.Pairwise.imp_of_mem (fun {a b} ha hb hab => xne a (uz a ha).1 b (uz b hb).1 hab) (List.nodup_iff_pairwise_ne.mp und)
  obtain ⟨S1, a1, a2, a3⟩ := h_back17 (z := z) (g := g) (q := q) (es := es) (fun e he i hi => h.O.dj e he i (qz i hi).1) pq (by omega) _ 100000 0 S (by show TL S z g (es ++ []); rw [List.append_nil]; exact ⟨h.O.sz, h.O.row⟩) h.Q.qs h.Q.q (fun i hi => (h.Q.ins i (qz i hi).1).e) rfl (by omega) (by omega)
  have bl : (bck q).length = q.length := by unfold bck; rw [List.length_map]
  obtain ⟨S2, b1, b2, b3⟩ := h_back18 (z := z) (g := g) (q := u) (es := es ++ bck q) (fun e he i hi => by
    rcases List.mem_append.mp he with c | c
    · exact h.O.dj e c i (uz i hi).1
    · obtain ⟨k, hk, rfl⟩ := List.mem_map.mp c
      refine xne k (qz k hk).1 i (uz i hi).1 (fun w => ?_)
      have h1 := (qz k hk).2
      rw [w, (uz i hi).2] at h1; cases h1) pu (by rw [List.length_append, bl]; omega) _ 100000 0 S1 (by show TL S1 z g (es ++ bck q ++ []); rw [List.append_nil]; exact a2) ((a3.ei _ (by decide) _).trans h.Q.us) (fun t k hk => (a3.eq _ (by decide) _).trans (h.Q.u t k hk)) (fun i hi => (h.Q.ins i (uz i hi).1).e.x a3 (by decide) (by simp)) rfl (by omega) (by omega)
  have w0 : hX [704, 1105, 1101, 1103] [] [] [] [] [19] S S2 := (a3.mono (by decide) (by simp) (by simp) (by simp) (by simp) (by simp)).tr (b3.mono (by decide) (by simp) (by simp) (by simp) (by simp) (by simp))
  have w1 : hX [1101, 1103] [] [] [] [] [] S2 (hpI (hpI S2 1101 16 0) 1103 16 0) := (hX.rf.pI (by decide)).pI (by decide)
  have W : hX [704, 1105, 1101, 1103] [] [] [] [] [19] S (hpI (hpI S2 1101 16 0) 1103 16 0) := w0.tr (w1.mono (by decide) (by simp) (by simp) (by simp) (by simp) (by simp))
  have e0 : es ++ bck q ++ bck u = es ++ bck (q ++ u) := by unfold bck; rw [List.map_append, List.append_assoc]
  rw [e0] at b2
  have hT := (h.B.tab.x W (by decide) (by simp)).wIns []
  refine ⟨hpI (hpI S2 1101 16 0) 1103 16 0, ?_, ⟨h.B.x W (fun k hk => by
    have : k = 19 := by simpa using hk
    subst this
    exact ⟨250, fix_at hfix rfl⟩) (by decide) (by simp) (by simp) rfl hT, ⟨?_, fun j i hj => (by cases hj), ?_, fun j i hj => (by cases hj), fun i hi => (by cases hi), fun i hi => (by cases hi), ⟨List.Pairwise.nil, fun i => ⟨fun hi => (by cases hi), fun hi => (by cases hi.1)⟩⟩, rfl⟩, h.K.x W (by decide), ⟨?_, fun j e he => ?_, fun e he i hi => (by cases hi), ?_⟩⟩, W⟩
  · unfold h_Qu_sendAllBack
    have a1' : hl_Qu_sendAllBack_2 100000 0 S = some S1 := a1
    have b1' : hl_Qu_sendAllBack_29 100000 0 S1 = some S2 := b1
    rw [a1', Option.bind_some, b1']; rfl
  · simp [hpI, up2]; rfl
  · simp [hpI, up2]; rfl
  · exact (w1.ei _ (by decide) _).trans b2.1
  · obtain ⟨c1, c2, c3⟩ := b2.2 j e he
    exact ⟨c1, (w1.ei _ (by decide) _).trans c2, c3.x w1 (by decide) (by simp)⟩
  · show (es ++ bck (q ++ u)).length + 0 ≤ 250
    unfold bck
    rw [List.length_append, List.length_map, List.length_append]
    omega
/-! What is counted. -/
theorem d_wait_loop {n : Nat} {s : mS} {z : Z} (hQ : MQu s z) (hO : okQ n z) (b : Bool) : ∀ (d fu j : Nat), z.ins.length - j = d → d < fu → j ≤ z.ins.length → l_Mo_waiting_4 fu (b2i b) (nI ((z.ins.take j).filter fun i => i.wt == b).length) (nI j) s = some (nI (z.ins.filter fun i => i.wt == b).length) := by
  have hz := hO.len
  intro d
  induction d with
  | zero =>
    intro fu j hd hf hj
    obtain ⟨fu, rfl⟩ : ∃ f, fu = f + 1 := ⟨fu - 1, by omega⟩
    unfold l_Mo_waiting_4
    rw [hQ.many, if_pos (nI_le0 (by omega) (by omega) (by omega)), List.take_of_length_le (by omega)]
  | succ d ih =>
    intro fu j hd hf hj
    obtain ⟨fu, rfl⟩ : ∃ f, fu = f + 1 := ⟨fu - 1, by omega⟩
    have hjz : j < z.ins.length := by omega
    have hI := hQ.ins j _ (at_some hjz)
    have IH := ih fu (j + 1) (by omega) (by omega) (by omega)
    rw [take_snoc (at_some hjz), List.filter_append, List.length_append] at IH
    unfold l_Mo_waiting_4
    rw [hQ.many, if_neg (nI_ngt (by omega) (by omega) (by omega)), ix_N (by omega) (by omega), Option.bind_some, hI.wt, nI_add1]
    by_cases hb : (z.at j).wt = b
    · rw [if_neg (fun q => q (by rw [hb])), Option.bind_some, nI_add1]
      rw [List.filter_cons_of_pos (by rw [hb]; exact beq_self_eq_true b), List.filter_nil, List.length_singleton] at IH
      exact IH
    · rw [if_pos (fun q => hb (by revert q; cases (z.at j).wt <;> cases b <;> decide)), Option.bind_some]
      rw [List.filter_cons_of_neg (by simpa using hb), List.filter_nil, List.length_nil, Nat.add_zero] at IH
      have e : ∀ x : Int32, x + 0 = x := fun x => by simp
      rw [e]
      exact IH
theorem d_wait {n : Nat} {s : mS} {z : Z} (hQ : MQu s z) (hO : okQ n z) (b : Bool) : d_Mo_waiting (b2i b) s = some (nI (z.ins.filter fun i => i.wt == b).length) := by
  have hz := hO.len
  have := d_wait_loop hQ hO b _ 100000 0 rfl (by omega) (by omega)
  unfold d_Mo_waiting
  have e : l_Mo_waiting_4 100000 (b2i b) 0 0 s = some (nI (z.ins.filter fun i => i.wt == b).length) := this
  rw [e]; rfl
