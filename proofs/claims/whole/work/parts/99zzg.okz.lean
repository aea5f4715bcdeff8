/-! The house stays in its bounds: one message more. -/
theorem big_s (n : Nat) : big (n + 1) = big n + 4000000000000000 := by
  unfold big
  omega
theorem big_0 (n : Nat) : 0 ≤ big n := by unfold big; omega
theorem okZ.up {n : Nat} {z : Z} (h : okZ n z) : okZ (n + 1) z := by
  have hb := big_s n
  refine ⟨h.mem, h.cod, h.ast, h.acd, h.fc, by have := h.tot; omega, fun P => by have := h.pos P; omega, fun P => by have := h.beg P; omega, fun P => by have := h.wnt P; omega, fun P => by have := h.cam P; omega, fun P => by have := h.pl P; omega, fun P => by have := h.mv P; omega, fun P => by have := h.paid P; omega, h.lim, by have := h.lims; omega, h.ins, h.oki, h.unq, h.tns, by have := h.turns; omega, h.tick, h.out, h.outr, h.bank, h.mpl, h.crd⟩
def Z.addT (z : Z) (t : Txt) : Z := ((z.1.1, z.1.2.1, z.1.2.2.1, z.1.2.2.2.1, z.1.2.2.2.2.1, z.1.2.2.2.2.2.1, z.1.2.2.2.2.2.2.1, z.txs ++ [t], z.1.2.2.2.2.2.2.2.2), z.2)
theorem addT_okZ {n : Nat} {z : Z} (h : okZ n z) (t : Txt) : okZ n (z.addT t) := h
theorem addT_good {z : Z} (h : good z) (t : Txt) : good (z.addT t) := h
/-! A participant more. -/
theorem wth0 (prc cut : Nat) : wth 0 prc cut = 0 := by
  unfold wth
  rw [Nat.zero_mul]; rfl
theorem wor0 {z : Z} {p a : Nat} (h : z.pl (64 * p + a) = 0) : z.wor p a = 0 := by
  unfold Z.wor
  split
  · split
    · rfl
    · rw [h]; exact wth0 _ _
  · rfl
theorem okZ.addM {n : Nat} {z : Z} (h : okZ n z) {c : List Nat} (h1 : c.length = 4) (h2 : is36 c) (h3 : z.mem.length < 256) : okZ n (z.addM c) := by
  have hm := h.mem
  have ha := h.ast
  have hl : (z.addM c).mem.length = z.mem.length + 1 := by
    show (z.mem ++ [c]).length = _
    rw [List.length_append]; rfl
  refine ⟨by omega, fun d hd => ?_, h.ast, h.acd, h.fc, h.tot, h.pos, h.beg, h.wnt, h.cam, h.pl, h.mv, h.paid, h.lim, h.lims, h.ins, fun i hi => ?_, h.unq, h.tns, h.turns, h.tick, fun P hP hq => h.out P hP (by rw [hl] at hq; have hq' : z.mem.length + 1 ≤ P / 64 ∨ z.ast.length ≤ P % 64 := hq; omega), fun k hk hq => h.outr k hk (by rw [hl] at hq; omega), h.bank, h.mpl, ?_⟩
  · have hd' : d ∈ z.mem ++ [c] := hd
    rcases List.mem_append.mp hd' with q | q
    · exact h.cod d q
    · rw [List.mem_singleton] at q; rw [q]; exact ⟨h1, h2⟩
  · have o := h.oki i hi
    exact ⟨by rw [hl]; have := o.who; omega, o.nm, o.pr, o.tn, o.len, fun l hl' => by
      have w := o.lg l hl'
      exact ⟨by rw [hl]; have := w.f; omega, by rw [hl]; have := w.t; omega, w.a, w.f0, w.t0, w.ft, w.v0, w.v⟩⟩
  · have e : (z.addM c).all = z.all + z.crd z.mem.length := by
      unfold Z.all
      rw [hl]; rfl
    have e0 : z.crd z.mem.length = 0 := sumN_0 (fun a hla => wor0 (h.out _ (by omega) (Or.inl (by omega))).2.1)
    rw [e, e0]; exact h.crd
theorem good.addM {n : Nat} {z : Z} (h : okZ n z) (hG : good z) {c : List Nat} (h3 : z.mem.length < 256) : good (z.addM c) := by
  have hm := h.mem
  have ha := h.ast
  have hl : (z.addM c).mem.length = z.mem.length + 1 := by
    show (z.mem ++ [c]).length = _
    rw [List.length_append]; rfl
  refine ⟨fun P h64 hP hp hq => ?_, fun a hla => ?_, hG.2.2⟩
  · have hq' : P % 64 < z.ast.length := hq
    show z.flr P ≤ z.pos P
    by_cases c1 : P / 64 < z.mem.length
    · exact hG.1 P h64 hP c1 hq
    · obtain ⟨o1, o2, _⟩ := h.out P hP (Or.inl (by omega))
      rw [flr_a hP, o1]
      split
      · omega
      · split
        · omega
        · rw [o2]; omega
  · rw [hl]
    show sumZ (fun p => z.pos (64 * p + a)) z.mem.length + z.pos (64 * z.mem.length + a) = 0
    have hla' : a < z.ast.length := hla
    rw [hG.2.1 a hla, (h.out (64 * z.mem.length + a) (by omega) (Or.inl (by omega))).1]; rfl
/-! An asset more. -/
theorem addA_mnyn {z : Z} {x : Ast} : (z.addA x).mny z.ast.length = x.mny := by
  unfold Z.mny
  show (match (z.ast ++ [x])[z.ast.length]? with | some x => x.mny | none => false) = _
  rw [List.getElem?_append_right (Nat.le_refl _), Nat.sub_self]; rfl
theorem addA_wor {z : Z} {x : Ast} {p a : Nat} (h : a < z.ast.length) : (z.addA x).wor p a = z.wor p a := by
  unfold Z.wor
  show (match (z.ast ++ [x])[a]? with | some x => _ | none => 0) = _
  rw [List.getElem?_append_left h]; rfl
theorem addA_crd2 {n : Nat} {z : Z} (h : okZ n z) {x : Ast} (h3 : z.ast.length < 64) {p : Nat} (hp : p < 256) : (z.addA x).crd p = z.crd p := by
  have hl : (z.addA x).ast.length = z.ast.length + 1 := by
    show (z.ast ++ [x]).length = _
    rw [List.length_append]; rfl
  unfold Z.crd
  rw [hl]
  show sumN ((z.addA x).wor p) z.ast.length + (z.addA x).wor p z.ast.length = _
  rw [sumN_cong (f := z.wor p) (fun k hk => addA_wor hk), wor0 (z := z.addA x) (h.out _ (by omega) (Or.inr (by omega))).2.1, Nat.add_zero]
theorem okZ.addA {n : Nat} {z : Z} (h : okZ n z) {x : Ast} (h1 : x.cd.length = 3 ∧ is36 x.cd ∧ x.prc < 1000000000000000 ∧ x.cut < 100) (h3 : z.ast.length < 64) : okZ n (z.addA x) := by
  have hm := h.mem
  have hl : (z.addA x).ast.length = z.ast.length + 1 := by
    show (z.ast ++ [x]).length = _
    rw [List.length_append]; rfl
  refine ⟨h.mem, h.cod, by omega, fun y hy => ?_, fun a hfa => ?_, h.tot, h.pos, h.beg, h.wnt, h.cam, h.pl, h.mv, h.paid, h.lim, h.lims, h.ins, fun i hi => ?_, h.unq, h.tns, h.turns, h.tick, fun P hP hq => h.out P hP (by rw [hl] at hq; have hq' : z.mem.length ≤ P / 64 ∨ z.ast.length + 1 ≤ P % 64 := hq; omega), h.outr, h.bank, fun P hP hq => ?_, ?_⟩
  · have hy' : y ∈ z.ast ++ [x] := hy
    rcases List.mem_append.mp hy' with q | q
    · exact h.acd y q
    · rw [List.mem_singleton] at q; rw [q]; exact h1
  · rw [addA_fc] at hfa
    rw [hl]
    by_cases c : z.fc = none ∧ x.mny = true
    · rw [if_pos c] at hfa
      cases hfa
      exact ⟨by omega, by rw [addA_mnyn]; exact c.2⟩
    · rw [if_neg c] at hfa
      obtain ⟨f1, f2⟩ := h.fc a hfa
      exact ⟨by omega, by rw [addA_mny f1]; exact f2⟩
  · have o := h.oki i hi
    exact ⟨o.who, o.nm, o.pr, o.tn, o.len, fun l hl' => by
      have w := o.lg l hl'
      exact ⟨w.f, w.t, by rw [hl]; have := w.a; omega, w.f0, w.t0, w.ft, w.v0, w.v⟩⟩
  · show z.pl P = 0
    by_cases c : P % 64 < z.ast.length
    · rw [addA_mny c] at hq; exact h.mpl P hP hq
    · exact (h.out P hP (Or.inr (by omega))).2.1
  · have e : (z.addA x).all = z.all := by
      unfold Z.all
      exact sumN_cong (fun p hp => addA_crd2 h h3 (by have hp' : p < z.mem.length := hp; omega))
    rw [e]; exact h.crd
theorem good.addA {n : Nat} {z : Z} (h : okZ n z) (hG : good z) {x : Ast} (h3 : z.ast.length < 64) : good (z.addA x) := by
  have hm := h.mem
  have hl : (z.addA x).ast.length = z.ast.length + 1 := by
    show (z.ast ++ [x]).length = _
    rw [List.length_append]; rfl
  have sum0 : ∀ m, m ≤ z.mem.length → sumZ (fun p => z.pos (64 * p + z.ast.length)) m = 0 := by
    intro m
    induction m with
    | zero => intro _; rfl
    | succ m ih =>
      intro hm'
      show sumZ _ m + z.pos (64 * m + z.ast.length) = 0
      rw [ih (by omega), (h.out (64 * m + z.ast.length) (by omega) (Or.inr (by omega))).1]; rfl
  refine ⟨fun P h64 hP hp hq => ?_, fun a hla => ?_, hG.2.2⟩
  · have hp' : P / 64 < z.mem.length := hp
    show (z.addA x).flr P ≤ z.pos P
    rw [flr_a hP, addA_crd2 h h3 (by omega), addA_fc]
    by_cases c : P % 64 < z.ast.length
    · rw [addA_mny c]
      have g0 := hG.1 P h64 hP hp' c
      rw [flr_a hP] at g0
      by_cases c2 : z.fc = none ∧ x.mny = true
      · rw [if_pos c2, if_neg (fun q => by injection q with q; omega)]
        rw [c2.1, if_neg (by simp)] at g0
        exact g0
      · rw [if_neg c2]; exact g0
    · obtain ⟨o1, o2, _⟩ := h.out P hP (Or.inr (by omega))
      rw [o1]
      generalize (if z.fc = none ∧ x.mny = true then some z.ast.length else z.fc) = fc'
      split
      · omega
      · split
        · omega
        · show z.pl P ≤ 0
          rw [o2]; omega
  · rw [hl] at hla
    show sumZ (fun p => z.pos (64 * p + a)) z.mem.length = 0
    by_cases c : a < z.ast.length
    · exact hG.2.1 a c
    · rw [show a = z.ast.length by omega]; exact sum0 _ (Nat.le_refl _)
/-! A price, a pledge, a limit. -/
theorem okZ.uPrc {n : Nat} {z : Z} (h : okZ n z) {a prc cut : Nat} (h1 : prc < 1000000000000000) (h2 : cut < 100) (h3 : (z.uPrc a prc cut).all ≤ mostN) : okZ n (z.uPrc a prc cut) := by
  have hl := uPrc_len z a prc cut
  refine ⟨h.mem, h.cod, by rw [hl]; exact h.ast, fun y hy => ?_, fun b hb => by rw [hl, uPrc_mny]; exact h.fc b hb, h.tot, h.pos, h.beg, h.wnt, h.cam, h.pl, h.mv, h.paid, h.lim, h.lims, h.ins, fun i hi => ?_, h.unq, h.tns, h.turns, h.tick, fun P hP hq => h.out P hP (by rw [hl] at hq; exact hq), h.outr, h.bank, fun P hP hq => h.mpl P hP (by rw [uPrc_mny] at hq; exact hq), h3⟩
  · obtain ⟨b, hb⟩ := List.mem_iff_getElem?.mp hy
    rw [uPrc_ast, List.getElem?_modify] at hb
    cases hx : z.ast[b]? with
    | none => rw [hx] at hb; cases hb
    | some x =>
      rw [hx] at hb
      have ok := h.acd x (List.mem_of_getElem? hx)
      by_cases c : a = b
      · simp only [Option.map_some, if_pos c] at hb
        cases hb
        exact ⟨ok.1, ok.2.1, h1, h2⟩
      · simp only [Option.map_some, if_neg c] at hb
        cases hb
        exact ok
  · have o := h.oki i hi
    exact ⟨o.who, o.nm, o.pr, o.tn, o.len, fun l hl' => by
      have w := o.lg l hl'
      exact ⟨w.f, w.t, by rw [hl]; exact w.a, w.f0, w.t0, w.ft, w.v0, w.v⟩⟩
theorem good.flr {z z' : Z} (hG : good z) (e1 : z'.mem.length = z.mem.length) (e2 : z'.ast.length = z.ast.length) (e3 : z'.pos = z.pos) (e4 : z'.paid = z.paid) (e5 : z'.lim = z.lim) (hf : ∀ P, 64 ≤ P → P < 16384 → P / 64 < z.mem.length → P % 64 < z.ast.length → z.flr P ≤ z.pos P → z'.flr P ≤ z.pos P) : good z' := by
  refine ⟨fun P h1 h2 h3 h4 => ?_, fun a ha => ?_, ?_⟩
  · rw [e1] at h3
    rw [e2] at h4
    rw [e3]
    exact hf P h1 h2 h3 h4 (hG.1 P h1 h2 h3 h4)
  · rw [e1, e3]
    exact hG.2.1 a (by rw [← e2]; exact ha)
  · rw [e4, e5]; exact hG.2.2
theorem anyB_f {z : Z} : ∀ {d j : Nat}, anyB z j d = false → ∀ p, j ≤ p → p < j + d → p ≠ 0 → z.bel p = false := by
  intro d
  induction d with
  | zero => intro j _ p h1 h2; omega
  | succ d ih =>
    intro j h p h1 h2 h0
    unfold anyB at h
    rw [Bool.or_eq_false_iff] at h
    by_cases c : p = j
    · subst c
      have := h.1
      rw [decide_eq_true h0, Bool.true_and] at this
      exact this
    · exact ih h.2 p (by omega) (by omega) h0
theorem bel_f {z : Z} {p b : Nat} (h : z.bel p = false) (hb : z.fc = some b) (hc : z.crd p ≤ mostN) : -(z.crd p : Int) ≤ z.pos (64 * p + b) := by
  unfold Z.bel at h
  rw [hb] at h
  have h' := of_decide_eq_false h
  rw [Nat.min_eq_left (by omega)] at h'
  omega
theorem flr_fc {z z' : Z} {P : Nat} (hP : P < 16384) (e1 : z'.fc = z.fc) (e2 : z'.mny (P % 64) = z.mny (P % 64)) (h1 : some (P % 64) = z.fc → -(z'.crd (P / 64) : Int) ≤ z.pos P) (h2 : some (P % 64) ≠ z.fc → z.mny (P % 64) = false → z'.pl P ≤ z.pos P) (hz : z.flr P ≤ z.pos P) : z'.flr P ≤ z.pos P := by
  rw [flr_a hP] at hz ⊢
  rw [e1, e2]
  by_cases c : some (P % 64) = z.fc
  · rw [if_pos c]; exact h1 c
  · rw [if_neg c] at hz ⊢
    cases c2 : z.mny (P % 64) with
    | true => rw [c2] at hz; exact hz
    | false => exact h2 c c2
theorem good.uPrc {n : Nat} {z : Z} (h : okZ n z) (hG : good z) {a prc cut : Nat} (h3 : (z.uPrc a prc cut).all ≤ mostN) (hb : anyB (z.uPrc a prc cut) 0 z.mem.length = false) : good (z.uPrc a prc cut) := by
  refine hG.flr rfl (uPrc_len z a prc cut) rfl rfl rfl (fun P h1 h2 h3' h4 h5 => flr_fc h2 rfl (uPrc_mny z a prc cut _) (fun hf => ?_) (fun c1 c2 => ?_) h5)
  · have hp : P / 64 < (z.uPrc a prc cut).mem.length := h3'
    have := bel_f (z := z.uPrc a prc cut) (p := P / 64) (b := P % 64) (anyB_f hb (P / 64) (by omega) (by omega) (by omega)) hf.symm (Nat.le_trans (sumN_le (f := (z.uPrc a prc cut).crd) hp) h3)
    rw [show 64 * (P / 64) + P % 64 = P by omega] at this
    exact this
  · rw [flr_a h2, if_neg c1, c2] at h5; exact h5
