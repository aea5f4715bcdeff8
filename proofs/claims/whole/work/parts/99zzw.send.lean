/-! Verdicts said. -/
def vdB (v : Int32) : List Int32 := if v = -1 then txt 0 ++ [nI 10] else txt 1 ++ [48 + v / 10] ++ [48 + (v - v / 10 * 10)] ++ [nI 10]
theorem vd_dig : ∀ m : Fin 13, (48 + nI m.val / 10 = nI (48 + m.val / 10)) ∧ (48 + (nI m.val - nI m.val / 10 * 10) = nI (48 + m.val % 10)) := by decide +kernel
theorem vd_m1 : ∀ m : Fin 13, nI m.val ≠ -1 := by decide +kernel
theorem h_verd {S : hS} (hA : HAn S []) {v : Int32} (hv : v = -1 ∨ ∃ m, m < 13 ∧ v = nI m) : ∃ S', h_An_putVerdict v S = some S' ∧ HAn S' (vdB v) ∧ aX S S' := by
  unfold h_An_putVerdict vdB
  by_cases c : v = -1
  · rw [if_neg (fun q => q c), if_pos c]
    obtain ⟨S', l1, l2, l3⟩ := h_line hA (v := 0) (by omega) (by show 0 + 9 ≤ 6000; omega)
    exact ⟨S', by rw [l1]; rfl, l2, l3⟩
  · rw [if_pos c, if_neg c]
    obtain ⟨m, m1, rfl⟩ := hv.resolve_left c
    obtain ⟨d1, d2⟩ := vd_dig ⟨m, m1⟩
    have d1' : 48 + nI m / 10 = nI (48 + m / 10) := d1
    have d2' : 48 + (nI m - nI m / 10 * 10) = nI (48 + m % 10) := d2
    obtain ⟨S1, a1, a2, a3⟩ := h_text hA (v := 1) (by omega) (by show 0 + 8 ≤ 6000; omega)
    rw [List.nil_append] at a2
    obtain ⟨S2, b1, b2, b3⟩ := h_put' a2 (by show 3 < 6000; omega) (x := 48 + m / 10) (by omega)
    obtain ⟨S3, c1, c2, c3⟩ := h_put' b2 (by show 4 < 6000; omega) (x := 48 + m % 10) (by omega)
    obtain ⟨S4, e1, e2, e3⟩ := h_put' c2 (by show 5 < 6000; omega) (x := 10) (by omega)
    have e1' : h_An_put 10 S3 = some S4 := e1
    rw [d1', d2']
    exact ⟨S4, by rw [a1, Option.bind_some, b1, Option.bind_some, c1, Option.bind_some, e1']; rfl, e2, a3.tr (b3.tr (c3.tr e3))⟩
theorem d_verdA {s : mS} (hA : AN s []) : ∃ s1 s', d_Mo_putWord 79 75 32 65 71 s = some s1 ∧ d_Mo_putWord 65 73 78 10 0 s1 = some s' ∧ AN s' (vdB (-1)) ∧ mX [7] [] [25] [] s s' := by
  obtain ⟨s1, a1, a2, a3⟩ := d_wd (a := 79) (b := 75) (c := 32) (d := 65) (e := 71) hA (by show 0 + 5 < 32768; omega) (by omega) (by omega) (by omega) (by omega) (by omega)
  have a2' : AN s1 [nI 79, nI 75, nI 32, nI 65, nI 71] := a2
  obtain ⟨s2, b1, b2, b3⟩ := d_wd (a := 65) (b := 73) (c := 78) (d := 10) (e := 0) a2' (by show 5 + 5 < 32768; omega) (by omega) (by omega) (by omega) (by omega) (by omega)
  exact ⟨s1, s2, a1, b1, b2, a3.tr b3⟩
theorem d_verdN {s : mS} (hA : AN s []) {m : Nat} (hm : m < 13) : ∃ s1 s', d_Mo_putWord 78 79 32 (48 + (nI m / 10)) (48 + (nI m - nI m / 10 * 10)) s = some s1 ∧ d_Mo_put 10 s1 = some s' ∧ AN s' (vdB (nI m)) ∧ mX [7] [] [25] [] s s' := by
  obtain ⟨d1, d2⟩ := vd_dig ⟨m, hm⟩
  have d1' : 48 + nI m / 10 = nI (48 + m / 10) := d1
  have d2' : 48 + (nI m - nI m / 10 * 10) = nI (48 + m % 10) := d2
  obtain ⟨s1, a1, a2, a3⟩ := d_wd (a := 78) (b := 79) (c := 32) (d := 48 + m / 10) (e := 48 + m % 10) hA (by show 0 + 5 < 32768; omega) (by omega) (by omega) (by omega) (by omega) (by omega)
  have n1 : nz (48 + m / 10) = [nI (48 + m / 10)] := if_neg (by omega)
  have n2 : nz (48 + m % 10) = [nI (48 + m % 10)] := if_neg (by omega)
  have n3 : nz 32 = [nI 32] := rfl
  rw [n1, n2, n3] at a2
  obtain ⟨s2, b1, b2, b3⟩ := d_put' a2 (by show 5 < 32768; omega) (x := 10) (by omega)
  refine ⟨s1, s2, ?_, b1, ?_, a3.tr b3⟩
  · rw [d1', d2']; exact a1
  · unfold vdB
    rw [if_neg (vd_m1 ⟨m, hm⟩), d1', d2']
    exact b2
theorem vdB_len (v : Int32) : (vdB v).length ≤ 100 := by
  unfold vdB
  split
  · show 9 ≤ 100; omega
  · show 6 ≤ 100; omega
theorem vAll_rng (z : Z) (k : Nat) (M : List Nat) : vAll z k M = -1 ∨ ∃ m, m < 13 ∧ vAll z k M = nI m := by
  unfold vAll
  cases z.fm (sl M 3 4) with
  | none => exact Or.inr ⟨2, by omega, rfl⟩
  | some p =>
    show (if ofB k = true ∧ p ≠ 0 then 3 else vRs z k p M) = -1 ∨ ∃ m, m < 13 ∧ (if ofB k = true ∧ p ≠ 0 then 3 else vRs z k p M) = nI m
    split
    · exact Or.inr ⟨3, by omega, rfl⟩
    · unfold vRs
      split
      · unfold vTx
        cases txO z k p M with
        | some j =>
          show (if txB z j = byt M then (-1 : Int32) else 6) = -1 ∨ ∃ m, m < 13 ∧ (if txB z j = byt M then (-1 : Int32) else 6) = nI m
          split
          · exact Or.inl rfl
          · exact Or.inr ⟨6, by omega, rfl⟩
        | none =>
          show vPh z k p M = -1 ∨ ∃ m, m < 13 ∧ vPh z k p M = nI m
          unfold vPh
          split
          · exact Or.inr ⟨7, by omega, rfl⟩
          · split
            · exact Or.inr ⟨12, by omega, rfl⟩
            · exact Or.inr ⟨_, vMat_lt, rfl⟩
      · exact Or.inr ⟨_, by have := cdF_lt z (cds k M); omega, rfl⟩
/-! Lengths, keys. -/
theorem evB_ln {z : Z} (hcod : ∀ c ∈ z.mem, c.length = 4 ∧ is36 c) {c : Nat} {i : Ins} (h1 : i.who < z.mem.length) (h2 : i.nm.length = 8) : (evB z c i).length = 14 := by
  obtain ⟨d, hd⟩ := get_lt (ks := z.mem) h1
  have hd4 := (hcod d (List.mem_of_getElem? hd)).1
  unfold evB chs
  simp [List.getD_eq_getElem?_getD, hd, hd4, h2]
theorem tel_len {z : Z} (hcod : ∀ c ∈ z.mem, c.length = 4 ∧ is36 c) : ∀ {es : List (Ins × Bool)}, (∀ e ∈ es, e.1.who < z.mem.length ∧ e.1.nm.length = 8) → (telB z es).length = 14 * es.length := by
  intro es
  induction es with
  | nil => intro _; rfl
  | cons e es ih =>
    intro h
    have h1 := h e (by simp)
    have h2 := ih (fun e' he => h e' (by simp [he]))
    unfold telB at h2 ⊢
    rw [List.map_cons, List.flatten_cons, List.length_append, h2, evB_ln hcod h1.1 h1.2, List.length_cons]
    omega
theorem setl_len : ∀ (m : Nat) (z : Z) (q : List Ins), (setl m z q).2.2.length ≤ q.length := by
  intro m
  induction m with
  | zero => intro z q; exact Nat.zero_le _
  | succ m ih =>
    intro z q
    cases hf : z.fst (fun _ => false) q with
    | none => rw [setl_none hf]; exact Nat.zero_le _
    | some i =>
      rw [setl_some hf, List.length_cons]
      have h1 := ih (z.stl i) (q.filter fun j => !(sameK i j))
      have h2 : (q.filter fun j => !(sameK i j)).length < q.length := by
        rw [← List.countP_eq_length_filter]
        refine Nat.lt_of_le_of_ne (List.countP_le_length ..) (fun c => ?_)
        have := List.countP_eq_length.mp c i (fst_mem hf).1
        rw [sameK_iff.mpr ⟨rfl, rfl⟩] at this
        cases this
      omega
theorem resZ_len (z : Z) (q : List Ins) (C : Ins → Bool) : (resZ z q C).2.2.length ≤ q.length := by
  have h1 := setl_len 250 (stlL z (q.filter C)) (q.filter fun i => !(C i))
  have h2 : (q.filter C).length + (q.filter fun i => !(C i)).length = q.length := by
    have := List.length_eq_countP_add_countP (l := q) (fun i => C i)
    rw [List.countP_eq_length_filter, List.countP_eq_length_filter] at this
    rw [this]
    congr 2
    refine List.filter_congr (fun i _ => ?_)
    cases C i <;> simp
  unfold resZ
  rw [List.length_append]
  omega
theorem txK_none {w : Nat} {nm : List Nat} : ∀ {l : List Txt} {k : Nat}, txK w nm k l = none → ∀ t ∈ l, ¬ (t.who = w ∧ t.nm = nm) := by
  intro l
  induction l with
  | nil => intro k _ t ht; cases ht
  | cons i l ih =>
    intro k h t ht
    unfold txK at h
    by_cases c : i.who = w ∧ i.nm = nm
    · rw [if_pos c] at h; cases h
    · rw [if_neg c] at h
      rcases List.mem_cons.mp ht with e | e
      · rw [e]; exact c
      · exact ih h t e
theorem rep_key {i' j : Ins} {L : List Ins} (h : j ∈ repL i' L) : ∃ i ∈ L, i.who = j.who ∧ i.nm = j.nm := by
  unfold repL at h
  obtain ⟨i, i1, i2⟩ := List.mem_map.mp h
  refine ⟨i, i1, ?_⟩
  by_cases c : sameK i' i = true
  · rw [if_pos c] at i2
    rw [← i2]
    exact ⟨(sameK_iff.mp c).1.symm, (sameK_iff.mp c).2.symm⟩
  · rw [if_neg c] at i2
    rw [← i2]; exact ⟨rfl, rfl⟩
theorem eff_keys {z : Z} {k p : Nat} {M : List Nat} (hk : k < 15) : (∀ i ∈ (eff z k p M).ins, (∃ j ∈ z.ins, j.who = i.who ∧ j.nm = i.nm) ∨ (k = 5 ∧ i.who = p ∧ i.nm = sl M 7 8)) ∧ (eff z k p M).tick = z.tick ∧ (eff z k p M).txs = z.txs := by
  have hc : k = 5 ∨ k = 6 ∨ k = 7 ∨ k = 8 ∨ k = 0 ∨ k = 1 ∨ k = 2 ∨ k = 3 ∨ k = 4 ∨ k = 9 ∨ k = 10 ∨ k = 11 ∨ k = 12 ∨ k = 13 ∨ k = 14 := by omega
  have same : ∀ i ∈ z.ins, (∃ j ∈ z.ins, j.who = i.who ∧ j.nm = i.nm) ∨ (k = 5 ∧ i.who = p ∧ i.nm = sl M 7 8) := fun i hi => Or.inl ⟨i, hi, rfl, rfl⟩
  rcases hc with rfl | rfl | rfl | rfl | rfl | rfl | rfl | rfl | rfl | rfl | rfl | rfl | rfl | rfl | rfl
  · show (∀ i ∈ (if (insP z p 0 M).wt then z.wIT (z.ins ++ [insP z p (z.turns + 1) M]) (z.turns + 1) else z.wIT (z.ins ++ [insP z p 0 M]) z.turns).ins, _) ∧ (if (insP z p 0 M).wt then z.wIT (z.ins ++ [insP z p (z.turns + 1) M]) (z.turns + 1) else z.wIT (z.ins ++ [insP z p 0 M]) z.turns).tick = _ ∧ (if (insP z p 0 M).wt then z.wIT (z.ins ++ [insP z p (z.turns + 1) M]) (z.turns + 1) else z.wIT (z.ins ++ [insP z p 0 M]) z.turns).txs = _
    have ap : ∀ tn, ∀ i ∈ z.ins ++ [insP z p tn M], (∃ j ∈ z.ins, j.who = i.who ∧ j.nm = i.nm) ∨ (5 = 5 ∧ i.who = p ∧ i.nm = sl M 7 8) := fun tn i hi => by
      rcases List.mem_append.mp hi with c | c
      · exact same i c
      · rw [List.mem_singleton] at c; rw [c]; exact Or.inr ⟨rfl, rfl, rfl⟩
    split
    · exact ⟨ap _, rfl, rfl⟩
    · exact ⟨ap _, rfl, rfl⟩
  · show (∀ i ∈ (match z.opn (fmD z (sl M 15 4)) (sl M 19 8) with | some i => if (i.cnf p).wt then z.wIT (repL (mkIns i.who i.nm i.pr (z.turns + 1) i.legs (i.ag ++ [p])) z.ins) (z.turns + 1) else z.wIT (repL (i.cnf p) z.ins) z.turns | none => z).ins, _) ∧ (match z.opn (fmD z (sl M 15 4)) (sl M 19 8) with | some i => if (i.cnf p).wt then z.wIT (repL (mkIns i.who i.nm i.pr (z.turns + 1) i.legs (i.ag ++ [p])) z.ins) (z.turns + 1) else z.wIT (repL (i.cnf p) z.ins) z.turns | none => z).tick = _ ∧ (match z.opn (fmD z (sl M 15 4)) (sl M 19 8) with | some i => if (i.cnf p).wt then z.wIT (repL (mkIns i.who i.nm i.pr (z.turns + 1) i.legs (i.ag ++ [p])) z.ins) (z.turns + 1) else z.wIT (repL (i.cnf p) z.ins) z.turns | none => z).txs = _
    cases z.opn (fmD z (sl M 15 4)) (sl M 19 8) with
    | none => exact ⟨same, rfl, rfl⟩
    | some i =>
      show (∀ i_1 ∈ (if (i.cnf p).wt then z.wIT (repL (mkIns i.who i.nm i.pr (z.turns + 1) i.legs (i.ag ++ [p])) z.ins) (z.turns + 1) else z.wIT (repL (i.cnf p) z.ins) z.turns).ins, _) ∧ (if (i.cnf p).wt then z.wIT (repL (mkIns i.who i.nm i.pr (z.turns + 1) i.legs (i.ag ++ [p])) z.ins) (z.turns + 1) else z.wIT (repL (i.cnf p) z.ins) z.turns).tick = _ ∧ (if (i.cnf p).wt then z.wIT (repL (mkIns i.who i.nm i.pr (z.turns + 1) i.legs (i.ag ++ [p])) z.ins) (z.turns + 1) else z.wIT (repL (i.cnf p) z.ins) z.turns).txs = _
      split
      · exact ⟨fun j hj => Or.inl (rep_key hj), rfl, rfl⟩
      · exact ⟨fun j hj => Or.inl (rep_key hj), rfl, rfl⟩
  · show (∀ i ∈ (match z.opn p (sl M 15 8) with | some i => z.del i | none => z).ins, _) ∧ (match z.opn p (sl M 15 8) with | some i => z.del i | none => z).tick = _ ∧ (match z.opn p (sl M 15 8) with | some i => z.del i | none => z).txs = _
    cases z.opn p (sl M 15 8) with
    | none => exact ⟨same, rfl, rfl⟩
    | some i => exact ⟨fun j hj => same j (List.mem_filter.mp hj).1, rfl, rfl⟩
  · show (∀ i ∈ (match z.opn p (sl M 15 8) with | some i => if i.wt then z.wIT (repL (mkIns i.who i.nm (M.getD 23 0) (z.turns + 1) i.legs i.ag) z.ins) (z.turns + 1) else z.wIT (repL (mkIns i.who i.nm (M.getD 23 0) i.tn i.legs i.ag) z.ins) z.turns | none => z).ins, _) ∧ (match z.opn p (sl M 15 8) with | some i => if i.wt then z.wIT (repL (mkIns i.who i.nm (M.getD 23 0) (z.turns + 1) i.legs i.ag) z.ins) (z.turns + 1) else z.wIT (repL (mkIns i.who i.nm (M.getD 23 0) i.tn i.legs i.ag) z.ins) z.turns | none => z).tick = _ ∧ (match z.opn p (sl M 15 8) with | some i => if i.wt then z.wIT (repL (mkIns i.who i.nm (M.getD 23 0) (z.turns + 1) i.legs i.ag) z.ins) (z.turns + 1) else z.wIT (repL (mkIns i.who i.nm (M.getD 23 0) i.tn i.legs i.ag) z.ins) z.turns | none => z).txs = _
    cases z.opn p (sl M 15 8) with
    | none => exact ⟨same, rfl, rfl⟩
    | some i =>
      show (∀ i_1 ∈ (if i.wt then z.wIT (repL (mkIns i.who i.nm (M.getD 23 0) (z.turns + 1) i.legs i.ag) z.ins) (z.turns + 1) else z.wIT (repL (mkIns i.who i.nm (M.getD 23 0) i.tn i.legs i.ag) z.ins) z.turns).ins, _) ∧ (if i.wt then z.wIT (repL (mkIns i.who i.nm (M.getD 23 0) (z.turns + 1) i.legs i.ag) z.ins) (z.turns + 1) else z.wIT (repL (mkIns i.who i.nm (M.getD 23 0) i.tn i.legs i.ag) z.ins) z.turns).tick = _ ∧ (if i.wt then z.wIT (repL (mkIns i.who i.nm (M.getD 23 0) (z.turns + 1) i.legs i.ag) z.ins) (z.turns + 1) else z.wIT (repL (mkIns i.who i.nm (M.getD 23 0) i.tn i.legs i.ag) z.ins) z.turns).txs = _
      split
      · exact ⟨fun j hj => Or.inl (rep_key hj), rfl, rfl⟩
      · exact ⟨fun j hj => Or.inl (rep_key hj), rfl, rfl⟩
  all_goals exact ⟨same, rfl, rfl⟩
theorem stmD_len {z : Z} (hB : okB z) {p : Nat} : ∀ {r : List Ast} {a : Nat}, (∀ x ∈ r, x.cd.length = 3) → (stmD z p a r).length ≤ 90 * r.length := by
  intro r
  induction r with
  | nil => intro a _; exact Nat.zero_le _
  | cons x r ih =>
    intro a h
    have h1 := ih (a := a + 1) (fun y hy => h y (by simp [hy]))
    have h2 : (stm1 z (64 * p + a) x).length ≤ 90 := by
      unfold stm1
      split
      · exact Nat.zero_le _
      · exact stm_len hB (h x (by simp))
    unfold stmD
    rw [List.length_append, List.length_cons]
    omega
