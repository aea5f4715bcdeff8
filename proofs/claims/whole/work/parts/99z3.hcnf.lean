/-! The class: one that is to be confirmed comes; confirming. -/
theorem h_comeU {n : Nat} {S : hS} {z : Z} {g : hG} {q u : List Ins} {L : Nat} {es : List (Ins × Bool)} (h : HZ S z g q u L es) (hO : okQ n z) {i : Ins} (hc : CI S z g es i) (hwt : i.wt = false) (h4 : S.2.1 704 (g.xi i) = 0) {c : Nat} (h0 : S.2.1 707 (g.xi i) = nI (c + 1)) (hc4 : c < 4) (hl : z.ins.length + es.length < 250) : ∃ S', h_Qu_come (g.xi i) S = some S' ∧ HZ S' (z.wIns (z.ins ++ [i])) g q (u ++ [i]) L es ∧ hX [1103] [] [] [] [] [18] S S' := by
  have hfix := h.B.fix
  have hql := isq_len hO h.Q.isq
  have hul := filt_len z.ins
  rw [← hql, ← h.Q.isu] at hul
  obtain ⟨S2, hS2⟩ : ∃ S2, S2 = hpI (hpQ S 18 u.length (some (g.xi i))) 1103 16 (nI (u.length + 1)) := ⟨_, rfl⟩
  have w2 : hX [1103] [] [] [] [] [18] S S2 := by rw [hS2]; exact (hX.rf.pQ (by decide)).pI (by decide)
  have e18 : ∀ t, S2.2.2.2.2.2.2 18 t = if t = u.length then some (g.xi i) else S.2.2.2.2.2.2 18 t := fun t => by
    rw [hS2]
    show up2 S.2.2.2.2.2.2 18 u.length (some (g.xi i)) 18 t = _
    rw [up2_at]
  have hq27 : ∀ k ∈ [18], hK S.1 k 27 := fun k hk => by
    have : k = 18 := by simpa using hk
    subst this
    exact ⟨250, fix_at hfix rfl⟩
  have hmm : ∀ j, j ∈ (z.wIns (z.ins ++ [i])).ins ↔ j ∈ z.ins ∨ j = i := fun j => by
    show j ∈ z.ins ++ [i] ↔ _
    rw [List.mem_append, List.mem_singleton]
  refine ⟨S2, ?_, ⟨h.B.x w2 hq27 (by decide) (by simp) (by simp) rfl ((h.B.tab.x w2 (by decide) (by simp)).wIns _), ⟨(w2.ei _ (by decide) _).trans h.Q.qs, fun t j hj => (w2.eq _ (by decide) _).trans (h.Q.q t j hj), ?_, fun t j hj => ?_, fun j hj => ?_, fun a ha b hb e => ?_, ⟨h.Q.isq.1, fun j => ?_⟩, ?_⟩, h.K.x w2 (by decide), ⟨(w2.ei _ (by decide) _).trans h.O.sz, fun j e he => ?_, fun e he j hj => ?_, ?_⟩⟩, w2⟩
  · unfold h_Qu_come h_Qu_isFull
    rw [h.Q.qs, h.Q.us, nI_add', if_pos (show nI (q.length + u.length) < 250 from (nI_lt' (a := q.length + u.length) (b := 250) (by omega) (by omega)).mpr (by omega)), Option.bind_some, if_pos rfl]
    unfold h_In_awaitsNobody
    rw [h0, if_pos (nI_ne0 (by omega) (by omega)), Option.bind_some, if_neg (by decide), ix_N (by omega) (by omega), Option.bind_some, nI_add1, hS2]
  · rw [List.length_append, List.length_singleton, hS2]; simp [hpI, up2]
  · rw [e18]
    rcases get_snoc' hj with c | ⟨c1, c2⟩
    · rw [if_neg (by have := get_lt' c; omega)]; exact h.Q.u t j c
    · rw [if_pos c1, c2]
  · rcases (hmm j).mp hj with c | c
    · have hj0 := h.Q.ins j c
      obtain ⟨kj, hkj⟩ := hj0.net
      exact (hj0.x w2 (by decide) (w2.ei _ (by decide) _) (by simp) (by simp) ⟨by simp, fun c => absurd ((hq27 _ c).un hkj.kc) (by decide), by simp⟩).eqv rfl rfl
    · subst c
      obtain ⟨ks, hN⟩ := hc.net
      obtain ⟨ws, hW⟩ := hc.awt
      exact ⟨hc.e.x w2 (by decide) (by simp), (w2.ei _ (by decide) _).trans hc.who, (w2.ei _ (by decide) _).trans hc.pr, by rw [w2.ei _ (by decide), h4, hwt]; rfl, ⟨ks, hN.x w2 (by decide) (by simp) (fun c => absurd ((hq27 _ c).un hN.kc) (by decide)) (by simp)⟩, ⟨ws, hW.x w2 (by decide) (by simp) (by simp)⟩⟩
  · rcases (hmm a).mp ha with c | c <;> rcases (hmm b).mp hb with d | d
    · exact h.Q.inj a c b d e
    · subst d; exact absurd e.symm (hc.ne a c)
    · subst c; exact absurd e (hc.ne b d)
    · rw [c, d]; exact ⟨rfl, rfl⟩
  · rw [hmm, h.Q.isq.2]
    constructor
    · rintro ⟨a, b⟩; exact ⟨Or.inl a, b⟩
    · rintro ⟨a | a, b⟩
      · exact ⟨a, b⟩
      · rw [a, hwt] at b; cases b
  · show u ++ [i] = (z.ins ++ [i]).filter _
    rw [List.filter_append, ← h.Q.isu, List.filter_cons_of_pos (by rw [hwt]; rfl), List.filter_nil]
  · obtain ⟨r1, r2, r3⟩ := h.O.row j e he
    exact ⟨(w2.eq _ (by decide) _).trans r1, (w2.ei _ (by decide) _).trans r2, r3.x w2 (by decide) (by simp)⟩
  · rcases (hmm j).mp hj with c | c
    · exact h.O.dj e he j c
    · rw [c]; exact hc.ned e he
  · show es.length + (z.ins ++ [i]).length ≤ 250
    rw [List.length_append, List.length_singleton]; omega
/-! Whom it awaits. -/
theorem h_awaits_loop {S : hS} {x : Nat} {i : Ins} {ws : List Nat} (hW : HW S x i ws) (hl : i.legs.length ≤ 4) {p : Nat} (hp : p < 256) (hb : ∀ v ∈ ws, v < 256) : ∀ (d fu j : Nat), ws.length - j = d → d < fu → j ≤ ws.length → hl_In_awaits_2 fu x (nI p) (nI j) S = some (b2i (decide (p ∈ ws.drop j))) := by
  have hle := hW.le
  intro d
  induction d with
  | zero =>
    intro fu j hd hf hj
    obtain ⟨fu, rfl⟩ : ∃ f, fu = f + 1 := ⟨fu - 1, by omega⟩
    unfold hl_In_awaits_2
    rw [hW.sz, if_pos (nI_le0 (by omega) (by omega) (by omega)), List.drop_of_length_le (by omega)]; rfl
  | succ d ih =>
    intro fu j hd hf hj
    obtain ⟨fu, rfl⟩ : ∃ f, fu = f + 1 := ⟨fu - 1, by omega⟩
    obtain ⟨v, hv⟩ := get_lt (ks := ws) (j := j) (by omega)
    have hvb := hb v (List.mem_of_getElem? hv)
    have IH := ih fu (j + 1) (by omega) (by omega) (by omega)
    unfold hl_In_awaits_2
    rw [hW.sz, if_neg (nI_ngt (by omega) (by omega) (by omega)), hW.rw, Option.bind_some, hln_of hW.kw, ix_N (by omega) (by omega), Option.bind_some, hW.row j v hv, nI_add1, drop_cons hv]
    by_cases e : v = p
    · rw [if_neg (fun q => q (by rw [e])), decide_eq_true (by rw [e]; exact List.mem_cons_self)]; rfl
    · rw [if_pos (fun q => e (nI_inj (by omega) (by omega) q)), IH]
      congr 2
      have : p ∈ v :: ws.drop (j + 1) ↔ p ∈ ws.drop (j + 1) := by rw [List.mem_cons]; exact ⟨fun c => c.resolve_left (fun w => e w.symm), Or.inr⟩
      simp only [this]
theorem h_awaits {S : hS} {x : Nat} {i : Ins} {ws : List Nat} (hW : HW S x i ws) (hl : i.legs.length ≤ 4) {p : Nat} (hp : p < 256) (hb : ∀ v ∈ ws, v < 256) : h_In_awaits x (nI p) S = some (b2i (decide (p ∈ ws))) := by
  have hle := hW.le
  have := h_awaits_loop hW hl hp hb _ 100000 0 rfl (by omega) (by omega)
  rw [List.drop_zero] at this
  exact this
/-- one confirms -/
def Ins.cnf (i : Ins) (p : Nat) : Ins := mkIns i.who i.nm i.pr i.tn i.legs (i.ag ++ [p])
theorem h_confirm_loop {S : hS} {x : Nat} {i : Ins} {ws : List Nat} (hW : HW S x i ws) (hl : i.legs.length ≤ 4) {p : Nat} (hp : p < 256) (hb : ∀ v ∈ ws, v < 256) : ∀ (d fu j : Nat), ws.length - j = d → d < fu → j ≤ ws.length → p ∉ ws.take j → p ∈ ws → ∃ S' ws', hl_In_confirmBy_2 fu x (nI p) (nI j) S = some S' ∧ HW S' x (i.cnf p) ws' ∧ ws'.length + 1 = ws.length ∧ hX [707] [] [] [x + 1] [] [] S S' ∧ (∀ y, y ≠ x → S'.2.1 707 y = S.2.1 707 y) ∧ ∃ t v v', S' = hpA (hpI S 707 x v) (x + 1) t v' := by
  have hle := hW.le
  intro d
  induction d with
  | zero =>
    intro fu j hd hf hj hn hm
    rw [List.take_of_length_le (by omega)] at hn
    exact absurd hm hn
  | succ d ih =>
    intro fu j hd hf hj hn hm
    obtain ⟨fu, rfl⟩ : ∃ f, fu = f + 1 := ⟨fu - 1, by omega⟩
    obtain ⟨v, hv⟩ := get_lt (ks := ws) (j := j) (by omega)
    have hvb := hb v (List.mem_of_getElem? hv)
    by_cases e : v = p
    · subst e
      obtain ⟨c, hc⟩ : ∃ c, ws.length = c + 1 := ⟨ws.length - 1, by omega⟩
      obtain ⟨la, hla⟩ := get_lt (ks := ws) (j := c) (by omega)
      have e707 : (hpI S 707 x (S.2.1 707 x - 1)).2.1 707 x = nI c := by
        rw [hW.sz, hc, nI_succ_sub]; simp [hpI, up2]
      obtain ⟨S2, hS2⟩ : ∃ S2, S2 = hpA (hpI S 707 x (S.2.1 707 x - 1)) (x + 1) j (S.2.2.2.2.1 (x + 1) c) := ⟨_, rfl⟩
      have w : hX [707] [] [] [x + 1] [] [] S S2 := by rw [hS2]; exact (hX.rf.pI (by decide)).pA (List.mem_singleton.mpr rfl)
      have hset : ∀ t z, ((ws.set j la).take c)[t]? = some z → S2.2.2.2.2.1 (x + 1) t = nI z := fun t z ht => by
        rw [List.getElem?_take] at ht
        by_cases htc : t < c
        · rw [if_pos htc, List.getElem?_set] at ht
          rw [hS2]
          show up2 S.2.2.2.2.1 (x + 1) j (S.2.2.2.2.1 (x + 1) c) (x + 1) t = _
          rw [up2_at]
          by_cases htj : j = t
          · rw [if_pos htj, if_pos (by omega)] at ht
            cases ht
            rw [if_pos htj.symm]; exact hW.row c la hla
          · rw [if_neg htj] at ht
            rw [if_neg (fun q => htj q.symm)]; exact hW.row t z ht
        · rw [if_neg htc] at ht; cases ht
      have hlen : ((ws.set j la).take c).length = c := by rw [List.length_take, List.length_set]; omega
      have key : ∀ z, z ∈ (ws.set j la).take c ↔ z ∈ ws ∧ z ≠ v := fun z => by
        rw [List.mem_iff_getElem?, List.mem_iff_getElem?]
        have nd := hW.nd
        constructor
        · rintro ⟨t, ht⟩
          rw [List.getElem?_take] at ht
          by_cases htc : t < c
          · rw [if_pos htc, List.getElem?_set] at ht
            by_cases htj : j = t
            · rw [if_pos htj, if_pos (by omega)] at ht
              cases ht
              refine ⟨⟨c, hla⟩, fun q => ?_⟩
              rw [q] at hla
              obtain ⟨y1, y2⟩ := List.getElem?_eq_some_iff.mp hla
              obtain ⟨y3, y4⟩ := List.getElem?_eq_some_iff.mp hv
              have := (List.getElem_inj nd).mp (y2.trans y4.symm)
              omega
            · rw [if_neg htj] at ht
              refine ⟨⟨t, ht⟩, fun q => ?_⟩
              rw [q] at ht
              obtain ⟨y1, y2⟩ := List.getElem?_eq_some_iff.mp ht
              obtain ⟨y3, y4⟩ := List.getElem?_eq_some_iff.mp hv
              exact htj ((List.getElem_inj nd).mp (y4.trans y2.symm))
          · rw [if_neg htc] at ht; cases ht
        · rintro ⟨⟨t, ht⟩, hz⟩
          by_cases htc : t = c
          · rw [htc, hla] at ht; cases ht
            have hjc : j < c := by
              by_cases hjc : j < c
              · exact hjc
              · exfalso
                have : j = c := by omega
                rw [this, hla] at hv
                cases hv; exact hz rfl
            exact ⟨j, by rw [List.getElem?_take, if_pos hjc, List.getElem?_set, if_pos rfl, if_pos (by omega)]⟩
          · have := get_lt' ht
            refine ⟨t, ?_⟩
            rw [List.getElem?_take, if_pos (by omega), List.getElem?_set, if_neg (fun q => ?_)]
            · exact ht
            · rw [← q, hv] at ht
              cases ht; exact hz rfl
      refine ⟨S2, (ws.set j la).take c, ?_, ⟨(w.er _ (by simp) _).trans hW.rw, by rw [w.sh]; exact hW.kw, ?_, by rw [hlen]; show c ≤ i.legs.length; omega, ?_, hset, fun z => ?_⟩, by rw [hlen, hc], w, fun y hy => ?_, _, _, _, hS2⟩
      · unfold hl_In_confirmBy_2
        rw [hW.sz, if_neg (nI_ngt (by omega) (by omega) (by omega)), hW.rw, Option.bind_some, hln_of hW.kw, ix_N (by omega) (by omega), Option.bind_some, hW.row j v hv, if_neg (fun q => q rfl)]
        have e7' : (hpI S 707 x (nI ws.length - 1)).2.1 707 x = nI c := by rw [← hW.sz]; exact e707
        rw [e7', ix_N (by omega) (by omega), Option.bind_some, hS2, hW.sz]
      · rw [hlen]
        rw [hS2]; exact e707
      · refine List.nodup_iff_pairwise_ne.mpr (List.pairwise_iff_getElem.mpr fun a b ha hb' hab heq => ?_)
        have ga : ((ws.set j la).take c)[a]? = some ((ws.set j la).take c)[a] := List.getElem?_eq_getElem ha
        have gb : ((ws.set j la).take c)[b]? = some ((ws.set j la).take c)[a] := by rw [heq]; exact List.getElem?_eq_getElem hb'
        rw [hlen] at ha hb'
        generalize ((ws.set j la).take c)[a] = z at ga gb
        rw [List.getElem?_take, if_pos ha, List.getElem?_set] at ga
        rw [List.getElem?_take, if_pos hb', List.getElem?_set] at gb
        have uq : ∀ {s t : Nat} {z : Nat}, ws[s]? = some z → ws[t]? = some z → s = t := fun {s t z} h1 h2 => by
          obtain ⟨y1, y2⟩ := List.getElem?_eq_some_iff.mp h1
          obtain ⟨y3, y4⟩ := List.getElem?_eq_some_iff.mp h2
          exact (List.getElem_inj hW.nd).mp (y2.trans y4.symm)
        by_cases ca : j = a <;> by_cases cb : j = b
        · omega
        · rw [if_pos ca, if_pos (by omega)] at ga
          rw [if_neg cb] at gb
          cases ga
          have := uq gb hla; omega
        · rw [if_neg ca] at ga
          rw [if_pos cb, if_pos (by omega)] at gb
          cases gb
          have := uq ga hla; omega
        · rw [if_neg ca] at ga
          rw [if_neg cb] at gb
          have := uq ga gb; omega
      · rw [key z, hW.mem z]
        show _ ↔ (∃ l ∈ i.legs, l.f = z) ∧ z ∉ i.ag ++ [v]
        rw [List.mem_append, List.mem_singleton]
        constructor
        · rintro ⟨⟨a, b⟩, c'⟩; exact ⟨a, fun q => q.elim b c'⟩
        · rintro ⟨a, b⟩; exact ⟨⟨a, fun q => b (Or.inl q)⟩, fun q => b (Or.inr q)⟩
      · rw [hS2]; simp [hpI, hpA, up2, hy]
    · obtain ⟨S', ws', a1, a2, a3, a4, a5, a6⟩ := ih fu (j + 1) (by omega) (by omega) (by omega) (fun c => by
        rw [take_snoc hv, List.mem_append, List.mem_singleton] at c
        exact c.elim hn (fun w => e w.symm)) hm
      refine ⟨S', ws', ?_, a2, a3, a4, a5, a6⟩
      unfold hl_In_confirmBy_2
      rw [hW.sz, if_neg (nI_ngt (by omega) (by omega) (by omega)), hW.rw, Option.bind_some, hln_of hW.kw, ix_N (by omega) (by omega), Option.bind_some, hW.row j v hv, if_pos (fun q => e (nI_inj (by omega) (by omega) q)), nI_add1, a1]
