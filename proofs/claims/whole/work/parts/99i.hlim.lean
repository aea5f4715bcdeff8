/-! The class's books: limits, what the bank gives. -/
theorem HZ.b {S S' : hS} {z z' : Z} {g g' : hG} {q u : List Ins} {L : Nat} {es : List (Ins × Bool)} (h : HZ S z g q u L es) (bf : BF S S') (hB : HB S' z' g') (ext : ∀ P y, g.ad P = some y → g'.ad P = some y) (new : ∀ P x, g'.ad P = some x → g.ad P = some x ∨ S'.2.1 1008 x = 0) (hg : g'.2.1 = g.2.1) (hi : z'.ins = z.ins) (hm : ∀ p, p < z.mem.length → z'.mem.getD p [] = z.mem.getD p []) (hp : ∀ i ∈ z.ins, i.pls z'.fc = i.pls z.fc ∧ ∀ P, i.net z'.fc P = i.net z.fc P) (hw : ∀ i ∈ z.ins, i.who < z.mem.length) (he : ∀ e ∈ es, e.1.who < z.mem.length) : HZ S' z' g' q u L es :=
  ⟨hB, h.Q.f bf h.B.fix (fun i hi' => hm _ (hw i hi')) hp ext hg hi, h.K.f bf h.B.fix (fun P x hx => (h.B.tab.pos P x hx).len) new, h.O.f bf h.B.fix (fun e he' => hm _ (he e he')) hg hi⟩
/-- as HB.x, for another house: what must be the same, and what is said anew -/
theorem HB.x' {ki kl kr ka kb kq : List Nat} {S S' : hS} {z z' : Z} {g : hG} (h : HB S z g) (w : hX ki kl kr ka kb kq S S') (hq : ∀ k ∈ kq, hK S.1 k 27) (h1 : 900 ∉ ki ∧ 901 ∉ ki ∧ 1301 ∉ ki ∧ 401 ∉ ki ∧ 403 ∉ ki ∧ 404 ∉ ki ∧ 300 ∉ ki ∧ 301 ∉ ki ∧ 303 ∉ ki) (h2 : 904 ∉ kl ∧ 406 ∉ kl ∧ 302 ∉ kl) (h3 : 902 ∉ kr ∧ 903 ∉ kr ∧ 1300 ∉ kr) (e1 : z'.mem = z.mem) (e2 : z'.ast = z.ast) (e3 : z'.fc = z.fc) (e4 : z'.pl = z.pl) (hl : S'.2.1 405 10 = Int32.ofInt z'.lims) (ht : HT S' z' g.ad) : HB S' z' g := by
  have hM : ∀ p c, z.mem[p]? = some c → HM S' z' g p c := fun p c hp => by
    have hm := (h.par p c hp).x (z' := z) w h.fix hq ⟨h1.1, h1.2.1, h1.2.2.1⟩ h2.1 h3 rfl
    have ec : z'.crd p = z.crd p := by unfold Z.crd Z.wor; rw [e2, e4]
    exact ⟨hm.at, hm.k, hm.cod, hm.bnk, by rw [ec]; exact hm.crd, hm.acr, hm.ack, hm.acc, hm.rlr, hm.rlk, hm.rom⟩
  have e5 : z'.all = z.all := by unfold Z.all Z.crd Z.wor; rw [e1, e2, e4]
  refine ⟨by rw [w.sh]; exact h.fix, ht, ?_, ?_, ?_, ?_, ?_, ?_, ?_, ?_, hl, ?_⟩
  · rw [e1]; exact (w.ei _ h1.2.2.2.1 _).trans h.mem
  · rw [e1]; exact hM
  · rw [e1]; exact h.pin
  · rw [e1]; intro p q e hp hq' a b; rw [w.er _ h3.2.2] at a b; exact h.rin p q e hp hq' a b
  · rw [e2]; exact (w.ei _ h1.2.2.2.2.1 _).trans h.asn
  · rw [e2]; exact fun a y hy => (h.ast a y hy).x w h.fix hq ⟨h1.2.2.2.2.2.2.1, h1.2.2.2.2.2.2.2.1, h1.2.2.2.2.2.2.2.2⟩ h2.2.2
  · rw [e2]; exact h.ain
  · rw [e3]; exact (w.ei _ h1.2.2.2.2.2.1 _).trans h.fir
  · rw [e5]; exact (w.el _ h2.2.1 _).trans h.all
def Z.uLim (z : Z) (k : Nat) (v : Int) (n : Int) : Z := ((z.1.1, z.1.2.1, z.1.2.2.1, z.1.2.2.2.1, z.1.2.2.2.2.1, (fun j => if j = k then v else z.lim j), n, z.1.2.2.2.2.2.2.2), z.2)
theorem uLim_lim (z : Z) (k : Nat) (v n : Int) (j : Nat) : (z.uLim k v n).lim j = if j = k then v else z.lim j := rfl
theorem uLim_flr {z : Z} {k : Nat} {v n : Int} {P : Nat} (h : P ≠ 16384 + k) : (z.uLim k v n).flr P = z.flr P := by
  unfold Z.flr
  by_cases h1 : P < 16384
  · rw [if_pos h1, if_pos h1]; rfl
  · rw [if_neg h1, if_neg h1, uLim_lim, if_neg (by omega)]
theorem uLim_fld {z : Z} {k : Nat} {v n : Int} {P : Nat} (h : P ≠ 16384 + k) : (z.uLim k v n).fld P = z.fld P := by
  unfold Z.fld
  by_cases h1 : P < 16384
  · rw [if_pos h1, if_pos h1]
  · rw [if_neg h1, if_neg h1, uLim_lim, if_neg (by omega)]
/-- a limit is set, or dropped, at one room -/
theorem HT.lim {S S' : hS} {z : Z} {ad : Nat → Option Nat} (h : HT S z ad) {k y : Nat} (hy : ad (16384 + k) = some y) {v n : Int} (w : hX [405, 1002] [1003] [] [] [] [] S S') (w1 : ∀ x, x ≠ y → S'.2.1 1002 x = S.2.1 1002 x ∧ S'.2.2.1 1003 x = S.2.2.1 1003 x) (hf : S'.2.1 1002 y = b2i (decide (0 ≤ v))) (hr : 0 ≤ v → S'.2.2.1 1003 y = lI (-v)) : HT S' (z.uLim k v n) ad := by
  refine ⟨fun P x hx => ?_, h.inr, h.inj, h.acc0, fun j hj hn => ?_⟩
  · have hp := h.pos P x hx
    by_cases hP : P = 16384 + k
    · subst hP
      rw [hy] at hx; cases hx
      have e1 : (z.uLim k v n).fld (16384 + k) = decide (0 ≤ v) := by
        rw [fld_room, uLim_lim, if_pos rfl]
      have e2 : (z.uLim k v n).flr (16384 + k) = - v := by
        unfold Z.flr
        rw [if_neg (by omega), uLim_lim, if_pos (by omega)]
      refine ⟨by rw [w.sh]; exact hp.k, (w.el _ (by decide) _).trans hp.lev, by rw [e1]; exact hf, fun c => ?_, fun c => by omega, fun c => (w.ei _ (by decide) _).trans (hp.tow c)⟩
      rw [e1, decide_eq_true_iff] at c
      rw [e2]
      exact hr (c.resolve_left (by omega))
    · have hxy : x ≠ y := fun c => hP (h.inj P _ y (by rw [← c]; exact hx) hy)
      obtain ⟨g1, g2⟩ := w1 x hxy
      exact ⟨by rw [w.sh]; exact hp.k, (w.el _ (by decide) _).trans hp.lev, by rw [uLim_fld hP]; exact g1.trans hp.fld, fun c => by
        rw [uLim_fld hP] at c
        rw [uLim_flr hP]; exact g2.trans (hp.flr c), fun c => ⟨(w.el _ (by decide) _).trans (hp.day c).1, (w.el _ (by decide) _).trans (hp.day c).2.1, (w.el _ (by decide) _).trans (hp.day c).2.2.1, (w.ei _ (by decide) _).trans (hp.day c).2.2.2⟩, fun c => (w.ei _ (by decide) _).trans (hp.tow c)⟩
  · have hjk : j ≠ k := fun c => by rw [c, hy] at hn; cases hn
    obtain ⟨g1, g2⟩ := h.rom0 j hj hn
    exact ⟨g1, by rw [uLim_lim, if_neg hjk]; exact g2⟩
theorem i32_add (a b : Int) : Int32.ofInt a + Int32.ofInt b = Int32.ofInt (a + b) := (Int32.ofInt_add a b).symm
theorem i32_sub (a b : Int) : Int32.ofInt a - Int32.ofInt b = Int32.ofInt (a - b) := (Int32.ofInt_sub a b).symm
theorem h_setLimit {S : hS} {z : Z} {g : hG} (h : HB S z g) {k y : Nat} (hy : g.ad (16384 + k) = some y) {v : Nat} : ∃ S', h_Bo_setLimit y (lI v) S = some S' ∧ HB S' (z.uLim k v (z.lims + if z.lim k < 0 then 1 else 0)) g ∧ hX [405, 1002] [1003] [] [] [] [] S S' := by
  have hp := h.tab.pos _ y hy
  have hfl := hp.fld
  rw [fld_room] at hfl
  have h10 : y ≠ 10 := kd_ne hp.k (fix_at h.fix (b := 10) (p := (4, 0)) rfl) (by decide)
  unfold h_Bo_setLimit
  rw [hfl]
  by_cases hl : 0 ≤ z.lim k
  · rw [decide_eq_true hl, if_pos (by decide), Option.bind_some, lI_neg, if_neg (by omega), Int.add_zero]
    have w : hX [405, 1002] [1003] [] [] [] [] S (hpL (hpI S 1002 y 1) 1003 y (lI (-(v : Int)))) := (hX.rf.pI (by decide)).pL (by decide)
    refine ⟨_, rfl, h.x' w (by simp) (by decide) (by decide) (by simp) rfl rfl rfl rfl ?_ (h.tab.lim hy w (fun x hx => ⟨by simp [hpI, hpL, up2, hx], by simp [hpI, hpL, up2, hx]⟩) ?_ (fun _ => by simp [hpI, hpL, up2])), w⟩
    · refine Eq.trans ?_ h.lims
      simp [hpI, hpL, up2]
    · rw [decide_eq_true (by omega)]; simp [hpI, hpL, up2, b2i]
  · rw [decide_eq_false hl, if_neg (by decide), Option.bind_some, lI_neg, if_pos (by omega)]
    have w : hX [405, 1002] [1003] [] [] [] [] S (hpL (hpI (hpI S 405 10 (S.2.1 405 10 + 1)) 1002 y 1) 1003 y (lI (-(v : Int)))) := ((hX.rf.pI (by decide)).pI (by decide)).pL (by decide)
    refine ⟨_, rfl, h.x' w (by simp) (by decide) (by decide) (by simp) rfl rfl rfl rfl ?_ (h.tab.lim hy w (fun x hx => ⟨by simp [hpI, hpL, up2, hx], by simp [hpI, hpL, up2, hx]⟩) ?_ (fun _ => by simp [hpI, hpL, up2])), w⟩
    · show _ = Int32.ofInt (z.lims + 1)
      rw [← i32_add, ← h.lims]
      simp [hpI, hpL, up2]
    · rw [decide_eq_true (by omega)]; simp [hpI, hpL, up2, b2i]
theorem h_dropLimit {S : hS} {z : Z} {g : hG} (h : HB S z g) {k y : Nat} (hy : g.ad (16384 + k) = some y) (hl : 0 ≤ z.lim k) : ∃ S', h_Bo_dropLimit y S = some S' ∧ HB S' (z.uLim k (-1) (z.lims - 1)) g ∧ hX [405, 1002] [1003] [] [] [] [] S S' := by
  have hp := h.tab.pos _ y hy
  have hfl := hp.fld
  rw [fld_room, decide_eq_true hl] at hfl
  unfold h_Bo_dropLimit
  rw [hfl, if_neg (by decide), Option.bind_some]
  have w : hX [405, 1002] [1003] [] [] [] [] S (hpI (hpI S 405 10 (S.2.1 405 10 - 1)) 1002 y 0) := (hX.rf.pI (by decide)).pI (by decide)
  refine ⟨_, rfl, h.x' w (by simp) (by decide) (by decide) (by simp) rfl rfl rfl rfl ?_ (h.tab.lim hy w (fun x hx => ⟨by simp [hpI, up2, hx], by simp [hpI]⟩) ?_ (fun c => by omega)), w⟩
  · show _ = Int32.ofInt (z.lims - 1)
    rw [← i32_sub, ← h.lims]
    simp [hpI, up2]
  · rw [decide_eq_false (by omega)]; simp [hpI, up2, b2i]
/-! The bank gives. -/
theorem mvH_mv1 {z : Z} {P : Nat} (h : P < 16384) (v : Int) : z.mvH P v = z.mv1 P v := by
  refine congrArg (fun t => ((z.1, t, z.2.2) : Z)) ?_
  refine Prod.ext rfl (Prod.ext rfl (Prod.ext rfl (Prod.ext rfl (funext fun k => ?_))))
  show (if 16384 + k = P then z.paid k - v else z.paid k) = z.paid k
  rw [if_neg (by omega)]
theorem GR.mono {S S' : hS} {z z' : Z} {g g' : hG} (w : GR S S' z g g') : S.1.length ≤ S'.1.length := w.bf.sh.len
theorem h_give {S : hS} {z : Z} {g : hG} {q u : List Ins} {L : Nat} {es : List (Ins × Bool)} (h : HZ S z g q u L es) (hX : okX z) {p a : Nat} (hp : p < z.mem.length) (h0 : 0 < z.mem.length) (ha : a < z.ast.length) {v : Int} (hv : -1000000000000000 < v ∧ v < 1000000000000000) (hlen : S.1.length + 2 < am_M) (hw : ∀ i ∈ z.ins, i.who < z.mem.length) (he : ∀ e ∈ es, e.1.who < z.mem.length) : ∃ S' g', h_Bo_give (nI a) (nI p) (lI v) S = some S' ∧ HZ S' ((z.mvH a (-v)).mvH (64 * p + a) v) g' q u L es ∧ BF S S' ∧ S'.1.length ≤ S.1.length + 2 ∧ g'.2 = g.2 := by
  have hs := hX.ast
  obtain ⟨y1, S1, g1, a1, a2, a3, a4⟩ := h_account (p := 0) h.B hX h0 ha (by omega)
  have hZ1 := a2.hz h
  rw [show 64 * 0 + a = a by omega] at a3
  obtain ⟨S2, b1, b2, b3⟩ := h_moveBy hZ1.B.tab a3 (v := -v) (by omega)
  have hB2 : HB S2 (z.mvH a (-v)) g1 := hZ1.B.x b3 (by simp) (by decide) (by decide) (by simp) rfl b2
  have hZ2 : HZ S2 (z.mvH a (-v)) g1 q u L es := hZ1.b (BF.ofX b3 (by decide) (by decide) (by simp) (by simp)) hB2 (fun _ _ c => c) (fun _ _ c => Or.inl c) rfl rfl (fun _ _ => rfl) (fun _ _ => ⟨rfl, fun _ => rfl⟩) hw he
  obtain ⟨y3, S3, g3, c1, c2, c3, c4⟩ := h_account (p := p) (a := a) hZ2.B ⟨hX.mem, hX.ast, hX.fc⟩ hp ha (by rw [b3.sh]; omega)
  have hZ3 := c2.hz hZ2
  obtain ⟨S4, d1, d2, d3⟩ := h_moveBy hZ3.B.tab c3 (v := v) (by omega)
  have hB4 : HB S4 ((z.mvH a (-v)).mvH (64 * p + a) v) g3 := hZ3.B.x d3 (by simp) (by decide) (by decide) (by simp) rfl d2
  refine ⟨S4, g3, ?_, hZ3.b (BF.ofX d3 (by decide) (by decide) (by simp) (by simp)) hB4 (fun _ _ c => c) (fun _ _ c => Or.inl c) rfl rfl (fun _ _ => rfl) (fun _ _ => ⟨rfl, fun _ => rfl⟩) hw he, ((a2.bf.tr (BF.ofX b3 (by decide) (by decide) (by simp) (by simp))).tr c2.bf).tr (BF.ofX d3 (by decide) (by decide) (by simp) (by simp)), ?_, c2.gg.trans a2.gg⟩
  · unfold h_Bo_give
    have a1' : h_Bo_account 0 (nI a) S = some (y1, S1) := a1
    rw [a1', Option.bind_some, lI_neg, b1, Option.bind_some, c1, Option.bind_some, d1]; rfl
  · rw [d3.sh]
    rw [b3.sh] at c4
    omega
