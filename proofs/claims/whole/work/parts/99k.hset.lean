/-! The class's credits: set anew. -/
theorem HB.ov {T S' : hS} {z z' : Z} {g : hG} (h : HB T z g) (s1 : S'.1 = T.1) (sr : S'.2.2.2 = T.2.2.2) (si : ∀ k, k ≠ 303 → S'.2.1 k = T.2.1 k) (sl : ∀ k, k ≠ 302 → k ≠ 406 → k ≠ 904 → k ≠ 1003 → S'.2.2.1 k = T.2.2.1 k) (em : z'.mem = z.mem) (ef : z'.fc = z.fc) (e2 : z'.2 = z.2) (eb : z'.beg = z.beg) (el : z'.lim = z.lim) (els : z'.lims = z.lims) (hpl : ∀ P, P < 16384 → g.ad P = none → z'.pl P = 0) (eal : z'.ast.length = z.ast.length) (hA : ∀ a x, z'.ast[a]? = some x → HA S' g a x) (hf : ∀ P x, g.ad P = some x → P < 16384 → S'.2.2.1 1003 x = lI (z'.flr P)) (hfr : ∀ P x, g.ad P = some x → 16384 ≤ P → S'.2.2.1 1003 x = T.2.2.1 1003 x) (hc : ∀ p, p < z.mem.length → S'.2.2.1 904 (g.pb p) = lI (z'.crd p : Nat)) (hal : S'.2.2.1 406 10 = lI (z'.all : Nat)) : HB S' z' g := by
  have fi : ∀ k a, k ≠ 303 → S'.2.1 k a = T.2.1 k a := fun k a hk => by rw [si k hk]
  have fl : ∀ k a, k ≠ 302 → k ≠ 406 → k ≠ 904 → k ≠ 1003 → S'.2.2.1 k a = T.2.2.1 k a := fun k a h1 h2 h3 h4 => by rw [sl k h1 h2 h3 h4]
  have fr : ∀ k a, S'.2.2.2.1 k a = T.2.2.2.1 k a := fun k a => by rw [sr]
  have fq : ∀ a j, S'.2.2.2.2.2.2 a j = T.2.2.2.2.2.2 a j := fun a j => by rw [sr]
  refine ⟨by rw [s1]; exact h.fix, ⟨fun P x hx => ?_, fun P x hx => ?_, h.tab.inj, fun P hP hn => ?_, fun k hk hn => ?_⟩, ?_, ?_, ?_, ?_, ?_, hA, ?_, ?_, ?_, hal⟩
  · have hp := h.tab.pos P x hx
    have e1 : z'.fld P = z.fld P := by unfold Z.fld; rw [el]
    refine ⟨by rw [s1]; exact hp.k, ?_, by rw [e1]; exact (fi _ _ (by decide)).trans hp.fld, fun c => ?_, fun c => ?_, fun c => (fi _ _ (by decide)).trans (hp.tow c)⟩
    · have : z'.lev P = z.lev P := by unfold Z.lev Z.pos Z.paid; rw [e2]
      rw [this]; exact (fl _ _ (by decide) (by decide) (by decide) (by decide)).trans hp.lev
    · by_cases hP : P < 16384
      · exact hf P x hx hP
      · have : z'.flr P = z.flr P := by unfold Z.flr; rw [if_neg hP, if_neg hP, el]
        rw [this, hfr P x hx (by omega)]
        rw [e1] at c
        exact hp.flr c
    · have w1 : z'.beg P = z.beg P := by rw [eb]
      have w2 : z'.wnt P = z.wnt P := by unfold Z.wnt; rw [e2]
      have w3 : z'.cam P = z.cam P := by unfold Z.cam; rw [e2]
      have w4 : z'.mv P = z.mv P := by unfold Z.mv; rw [e2]
      rw [w1, w2, w3, w4]
      exact ⟨(fl _ _ (by decide) (by decide) (by decide) (by decide)).trans (hp.day c).1, (fl _ _ (by decide) (by decide) (by decide) (by decide)).trans (hp.day c).2.1, (fl _ _ (by decide) (by decide) (by decide) (by decide)).trans (hp.day c).2.2.1, (fi _ _ (by decide)).trans (hp.day c).2.2.2⟩
  · have := h.tab.inr P x hx
    unfold inP at this ⊢
    rw [em, eal]; exact this
  · obtain ⟨a1, a2, a3, a4, a5, a6⟩ := h.tab.acc0 P hP hn
    have w0 : z'.pos P = z.pos P := by unfold Z.pos; rw [e2]
    have w1 : z'.beg P = z.beg P := by rw [eb]
    have w2 : z'.wnt P = z.wnt P := by unfold Z.wnt; rw [e2]
    have w3 : z'.cam P = z.cam P := by unfold Z.cam; rw [e2]
    have w4 : z'.mv P = z.mv P := by unfold Z.mv; rw [e2]
    rw [w0, w1, w2, w3, w4]
    exact ⟨a1, hpl P hP hn, a3, a4, a5, a6⟩
  · obtain ⟨a1, a2⟩ := h.tab.rom0 k hk hn
    have w0 : z'.paid k = z.paid k := by unfold Z.paid; rw [e2]
    rw [w0, el]; exact ⟨a1, a2⟩
  · rw [em]; exact (fi _ _ (by decide)).trans h.mem
  · rw [em]
    intro p c hp
    have hM := h.par p c hp
    obtain ⟨e, ts, b1, b2, b3, b4, b5, b6, b7, b8⟩ := hM.rom
    refine ⟨(fq _ _).trans hM.at, by rw [s1]; exact hM.k, (fi _ _ (by decide)).trans hM.cod, (fi _ _ (by decide)).trans hM.bnk, hc p (get_lt' hp), (fr _ _).trans hM.acr, by rw [s1]; exact hM.ack, fun a ha => (fq _ _).trans (hM.acc a ha), (fr _ _).trans hM.rlr, by rw [s1]; exact hM.rlk, e, ts, (fr _ _).trans b1, by rw [s1]; exact b2, by rw [s1]; exact b3, (fi _ _ (by decide)).trans b4, by rw [s1]; exact b5, b6, fun j t hj => ?_, b8⟩
    obtain ⟨c1, x, c2, c3⟩ := b7 j t hj
    exact ⟨c1, x, (fq _ _).trans c2, c3⟩
  · rw [em]; exact h.pin
  · rw [em]; intro p q e hp hq a b; rw [fr] at a b; exact h.rin p q e hp hq a b
  · rw [eal]; exact (fi _ _ (by decide)).trans h.asn
  · rw [eal]; exact h.ain
  · rw [ef]; exact (fi _ _ (by decide)).trans h.fir
  · rw [els]; exact (fi _ _ (by decide)).trans h.lims
section HST
variable {T : hS} {z : Z} {g : hG} {l : Nat → Nat → Int64}
set_option maxHeartbeats 1000000 in
theorem h_setCredit (h : HB T z g) (hX : okX z) (ag : AG T l) {p : Nat} (hp : p < z.mem.length) (c : Int) (hlen : T.1.length < am_M) : ∃ T' l' g', h_Bo_setCredit (nI p) (lI c) (wl T l) = some (wl T' l') ∧ GR T T' z g g' ∧ AG T' l' ∧ T'.1.length ≤ T.1.length + 1 ∧ l' 406 10 = l 406 10 - l 904 (g.pb p) + lI c ∧ l' 904 (g.pb p) = lI c ∧ (∀ x, x < T.1.length → x ≠ g.pb p → l' 904 x = l 904 x) ∧ ∀ P x, g'.ad P = some x → (∃ f, z.fc = some f ∧ P = 64 * p + f ∧ p ≠ 0 ∧ l' 1003 x = lI (-c)) ∨ (g.ad P = some x ∧ l' 1003 x = l 1003 x ∧ ∀ f, z.fc = some f → p ≠ 0 → P ≠ 64 * p + f) := by
  have hm := hX.mem
  obtain ⟨cc, hcc, hM⟩ := h.p hp
  have hb0 := len_get hM.k
  have e8 : (wl T l).2.2.2.2.2.2 11 p = some (g.pb p) := hM.at
  have h60 : 60 ≤ T.1.length := by have := h.fix.len; have h2 : hs_fix.length = 60 := rfl; omega
  obtain ⟨l1, hl1⟩ : ∃ l1, l1 = up2 (up2 l 406 10 (l 406 10 - l 904 (g.pb p) + lI c)) 904 (g.pb p) (lI c) := ⟨_, rfl⟩
  have l1_406 : l1 406 10 = l 406 10 - l 904 (g.pb p) + lI c := by rw [hl1]; simp [up2]
  have l1_904 : l1 904 (g.pb p) = lI c := by rw [hl1, up2_eq]
  have l1_904' : ∀ x, x ≠ g.pb p → l1 904 x = l 904 x := fun x hx => by rw [hl1, up2_ne (fun q => hx q.2), up2_ne (by omega)]
  have l1_1003 : ∀ x, l1 1003 x = l 1003 x := fun x => by rw [hl1, up2_ne (by omega), up2_ne (by omega)]
  have ag1 : AG T l1 := fun k h1 h2 h3 => by rw [hl1, up2_row h2, up2_row h1]; exact ag k h1 h2 h3
  have hun : h_Bo_setCredit (nI p) (lI c) (wl T l) = (if (nI p : Int32) = 0 then (some (wl T l1)) else (if ((wl T l).2.1 404 10 : Int32) = (-1) then (some (wl T l1)) else ((h_Bo_account (nI p) ((wl T l).2.1 404 10) (wl T l1)).bind fun q26 => (some (hpL q26.2 1003 q26.1 (-(lI c))))))) := by
    unfold h_Bo_setCredit h_Bo_allCreditIf
    rw [ix_N (by omega) (by omega), Option.bind_some, e8, Option.bind_some, Option.bind_some, Option.bind_some, e8, Option.bind_some, hl1]
    rfl
  have e404 : (wl T l).2.1 404 10 = oI z.fc := h.fir
  have plain : (p = 0 ∨ z.fc = none) → h_Bo_setCredit (nI p) (lI c) (wl T l) = some (wl T l1) → ∃ T' l' g', h_Bo_setCredit (nI p) (lI c) (wl T l) = some (wl T' l') ∧ GR T T' z g g' ∧ AG T' l' ∧ T'.1.length ≤ T.1.length + 1 ∧ l' 406 10 = l 406 10 - l 904 (g.pb p) + lI c ∧ l' 904 (g.pb p) = lI c ∧ (∀ x, x < T.1.length → x ≠ g.pb p → l' 904 x = l 904 x) ∧ ∀ P x, g'.ad P = some x → (∃ f, z.fc = some f ∧ P = 64 * p + f ∧ p ≠ 0 ∧ l' 1003 x = lI (-c)) ∨ (g.ad P = some x ∧ l' 1003 x = l 1003 x ∧ ∀ f, z.fc = some f → p ≠ 0 → P ≠ 64 * p + f) := fun hc he => ⟨T, l1, g, he, GR.rf h, ag1, by omega, l1_406, l1_904, fun x _ hx => l1_904' x hx, fun P x hP => Or.inr ⟨hP, l1_1003 x, fun f hf hp0 => by
    rcases hc with q | q
    · exact absurd q hp0
    · rw [q] at hf; cases hf⟩⟩
  by_cases hp0 : p = 0
  · refine plain (Or.inl hp0) ?_
    rw [hun, if_pos (by rw [hp0]; rfl)]
  have hpn : ¬ (nI p : Int32) = 0 := fun q => hp0 (nI_inj (by omega) (by omega) (show nI p = nI 0 from q))
  rw [if_neg hpn, e404] at hun
  obtain hfc | ⟨f, hfc⟩ : z.fc = none ∨ ∃ f, z.fc = some f := by
    cases z.fc with
    | none => exact Or.inl rfl
    | some f => exact Or.inr ⟨f, rfl⟩
  · refine plain (Or.inr hfc) ?_
    rw [hun, hfc]; exact if_pos rfl
  · have hf := hX.fc f hfc
    have hs := hX.ast
    rw [hfc] at hun
    obtain ⟨y, T', g', a1, a2, a3, a4⟩ := acc_wl h hX hp hf hlen
    obtain ⟨l2, b1, b2, b3, b4, b5⟩ := a4 l1 ag1
    have hB' := a1.hb h
    have hyl : y < T'.1.length := (hB'.tab.pos _ y a2).len
    refine ⟨T', up2 l2 1003 y (lI (-c)), g', ?_, a1, fun k h1 h2 h3 => by rw [up2_row h3]; exact b2 k h1 h2 h3, a3, ?_, ?_, fun x hx hxp => ?_, fun P x hP => ?_⟩
    · rw [hun, if_neg (show ¬ oI (some f) = -1 from nI_ne1 (by omega))]
      show ((h_Bo_account (nI p) (nI f) (wl T l1)).bind _) = _
      rw [b1, Option.bind_some, lI_neg]; rfl
    · rw [up2_ne (by omega), b3 _ _ (by omega)]; exact l1_406
    · rw [up2_ne (by omega), b3 _ _ hb0]; exact l1_904
    · rw [up2_ne (by omega), b3 _ _ hx]; exact l1_904' x hxp
    · by_cases hPe : P = 64 * p + f
      · left
        rw [hPe, a2] at hP; cases hP
        exact ⟨f, hfc, hPe, hp0, up2_eq⟩
      · right
        have hxy : x ≠ y := fun q => hPe (hB'.tab.inj P _ y (by rw [← q]; exact hP) a2)
        have hgP : g.ad P = some x := by
          rcases b4 with q | ⟨_, _, q, _⟩
          · have : g.ad (64 * p + f) = some y := by
              rcases a1.new _ y a2 with w | ⟨_, _, _, w, _⟩
              · exact w
              · omega
            rw [b5 this] at hP; exact hP
          · rw [q P, if_neg hPe] at hP; exact hP
        have hxl := (h.tab.pos P x hgP).len
        refine ⟨hgP, ?_, fun f' hf' _ => ?_⟩
        · rw [up2_na hxy, b3 _ _ hxl]; exact l1_1003 x
        · rw [hfc] at hf'; cases hf'; exact hPe
end HST
theorem flr_a {z : Z} {P : Nat} (h : P < 16384) : z.flr P = if some (P % 64) = z.fc then -(z.crd (P / 64) : Int) else if z.mny (P % 64) = true then 0 else z.pl P := by
  unfold Z.flr
  rw [if_pos h]
set_option maxHeartbeats 1000000 in
/-- a pledge is set -/
theorem h_pledge {S : hS} {z : Z} {g : hG} {q u : List Ins} {L : Nat} {es : List (Ins × Bool)} (h : HZ S z g q u L es) (hX : okX z) (hC : okC z) (hfc : ∀ a, z.fc = some a → z.mny a = true) (hmp : ∀ P, P < 16384 → z.mny (P % 64) = true → z.pl P = 0) {p a : Nat} (hp : p < z.mem.length) (hp0 : p ≠ 0) {x : Ast} (hx : z.ast[a]? = some x) (hsec : x.mny = false) {v : Nat} (hv : v ≤ 4000000000000000000) (hlen : S.1.length + 2 < am_M) (hw : ∀ i ∈ z.ins, i.who < z.mem.length) (he : ∀ e ∈ es, e.1.who < z.mem.length) : ∃ S' g', h_Bo_pledge (nI p) (nI a) (lI v) S = some S' ∧ HZ S' (z.uPl (64 * p + a) v) g' q u L es ∧ BF S S' ∧ S'.1.length ≤ S.1.length + 2 ∧ g'.2 = g.2 := by
  have ha := get_lt' hx
  have hm := hX.mem
  have hs := hX.ast
  obtain ⟨T1, l1, g1, a1, a2, a3, a4, a5, a6, a7, a8⟩ := h_setCredit (l := S.2.2.1) h.B hX (fun _ _ _ _ => rfl) hp ((z.uPl (64 * p + a) v).crd p : Nat) (by omega)
  have hB1 := a2.hb h.B
  obtain ⟨y, T2, g2, b1, b2, b3, b4⟩ := acc_wl hB1 hX hp ha (by omega)
  obtain ⟨l2, c1, c2, c3, c4, c5⟩ := b4 l1 a3
  have hB2 := b1.hb hB1
  have hZ2 := b1.hz (a2.hz h)
  obtain ⟨l3, hl3⟩ : ∃ l3, l3 = up2 l2 1003 y (lI v) := ⟨_, rfl⟩
  have hpb1 : g1.pb = g.pb := by unfold hG.pb; rw [a2.gg]
  have hpb2 : g2.pb = g.pb := by unfold hG.pb; rw [b1.gg, a2.gg]
  have hab2 : g2.ab = g.ab := by unfold hG.ab; rw [b1.gg, a2.gg]
  have hmny : z.mny a = false := by rw [mny_some hx]; exact hsec
  have hafc : ∀ f, z.fc = some f → f ≠ a := fun f hf c => by
    have := hfc f hf
    rw [c, hmny] at this; cases this
  have l01 := a2.bf.sh.len
  have h60 : 60 ≤ S.1.length := by have := h.B.fix.len; have h2 : hs_fix.length = 60 := rfl; omega
  -- the floors behind it
  have hflo : ∀ P x', g2.ad P = some x' → P < 16384 → l3 1003 x' = lI ((z.uPl (64 * p + a) v).flr P) := by
    intro P x' hP hPl
    rw [hl3]
    by_cases hPe : P = 64 * p + a
    · rw [hPe, b2] at hP; cases hP
      rw [up2_eq, flr_a (z := z.uPl (64 * p + a) v) hPl, hPe, show (64 * p + a) % 64 = a by omega]
      rw [if_neg (show ¬ some a = (z.uPl (64 * p + a) v).fc from fun c => hafc a c.symm rfl), if_neg (show ¬ (z.uPl (64 * p + a) v).mny a = true from fun c => by have : z.mny a = true := c; rw [hmny] at this; cases this), uPl_pl, if_pos rfl]
    · have hxy : x' ≠ y := fun w => hPe (hB2.tab.inj P _ y (by rw [← w]; exact hP) b2)
      have hg1 : g1.ad P = some x' := by
        rcases c4 with w | ⟨_, _, w, _⟩
        · have : g1.ad (64 * p + a) = some y := by
            rcases b1.new _ y b2 with w' | ⟨_, _, _, w', _⟩
            · exact w'
            · omega
          rw [c5 this] at hP; exact hP
        · rw [w P, if_neg hPe] at hP; exact hP
      rw [up2_na hxy, c3 _ _ (hB1.tab.pos P x' hg1).len]
      rcases a8 P x' hg1 with ⟨f, f1, f2, f3, f4⟩ | ⟨f1, f2, f3⟩
      · have ff := hX.fc f f1
        rw [f4, flr_a (z := z.uPl (64 * p + a) v) hPl, f2, show (64 * p + f) % 64 = f by omega, show (64 * p + f) / 64 = p by omega, if_pos (show some f = (z.uPl (64 * p + a) v).fc from f1.symm)]
      · have hq := (h.B.tab.pos P x' f1).flr (Or.inl hPl)
        rw [f2, hq, flr_a hPl, flr_a (z := z.uPl (64 * p + a) v) hPl, uPl_pl, if_neg hPe]
        by_cases hff : some (P % 64) = z.fc
        · rw [if_pos hff, if_pos (show some (P % 64) = (z.uPl (64 * p + a) v).fc from hff), uPl_crd_ne z hs ha v (fun w => f3 (P % 64) hff.symm hp0 (by omega))]
        · rw [if_neg hff, if_neg (show ¬ some (P % 64) = (z.uPl (64 * p + a) v).fc from hff)]; rfl
  have hBf : HB (wl T2 l3) (z.uPl (64 * p + a) v) g2 := by
    refine hB2.ov rfl rfl (fun _ _ => rfl) (fun k h1 h2 h3 h4 => ?_) rfl rfl rfl rfl rfl rfl (fun P hP hn => ?_) rfl (fun b x' hx' => ?_) (fun P x' hP hPl => hflo P x' hP hPl) (fun P x' hP hPl => ?_) (fun r hr => ?_) ?_
    · show l3 k = _
      rw [hl3, up2_row h4]; exact c2 k h2 h3 h4
    · rw [uPl_pl]
      by_cases hPe : P = 64 * p + a
      · rw [hPe, b2] at hn; cases hn
      · rw [if_neg hPe]; exact (hB2.tab.acc0 P hP hn).2.1
    · have hA := hB2.ast b x' hx'
      refine ⟨hA.at, hA.k, hA.cod, hA.sec, ?_, hA.cut⟩
      show l3 302 (g2.ab b) = _
      rw [hl3, up2_ne (by omega), c2 302 (by decide) (by decide) (by decide)]; exact hA.prc
    · show l3 1003 x' = _
      have hPe : P ≠ 64 * p + a := by omega
      have hxy : x' ≠ y := fun w => hPe (hB2.tab.inj P _ y (by rw [← w]; exact hP) b2)
      have hg1 : g1.ad P = some x' := by
        rcases c4 with w | ⟨_, _, w, _⟩
        · have : g1.ad (64 * p + a) = some y := by
            rcases b1.new _ y b2 with w' | ⟨_, _, _, w', _⟩
            · exact w'
            · omega
          rw [c5 this] at hP; exact hP
        · rw [w P, if_neg hPe] at hP; exact hP
      have hl1 := (hB1.tab.pos P x' hg1).len
      rw [hl3, up2_na hxy, c3 _ _ hl1, b1.l _ _ hl1]
      rcases a8 P x' hg1 with ⟨f, f1, f2, f3, f4⟩ | ⟨f1, f2, f3⟩
      · have ff := hX.fc f f1
        omega
      · rw [f2, a2.l _ _ (h.B.tab.pos P x' f1).len]
    · show l3 904 (g2.pb r) = _
      obtain ⟨cr, _, hMr⟩ := h.B.p hr
      have hbr := len_get hMr.k
      rw [hl3, up2_ne (by omega), hpb2, c3 _ _ (by omega)]
      by_cases hrp : r = p
      · rw [hrp]; exact a6
      · rw [a7 _ hbr (fun w => hrp (h.B.pin r p hr hp w)), uPl_crd_ne z hs ha v hrp]; exact hMr.crd
    · show l3 406 10 = _
      obtain ⟨cp, _, hMp⟩ := h.B.p hp
      rw [hl3, up2_ne (by omega), c3 _ _ (by omega), a5, h.B.all, hMp.crd, lI_sub, lI_add]
      have := uPl_all z hs hp ha v
      congr 1
      omega
  have hbf2 : BF T2 (wl T2 l3) := ⟨hE.rf, fun _ _ _ _ => rfl, fun k x' hk _ => by
    show l3 k x' = _
    have k1 : k ≠ 406 := fun w => hk (by rw [w]; decide)
    have k2 : k ≠ 904 := fun w => hk (by rw [w]; decide)
    have k3 : k ≠ 1003 := fun w => hk (by rw [w]; decide)
    rw [hl3, up2_row k3, c2 k k1 k2 k3], fun _ _ _ _ => rfl, fun _ _ => rfl, fun _ _ => rfl, fun _ _ _ => rfl⟩
  refine ⟨wl T2 l3, g2, ?_, hZ2.b hbf2 hBf (fun _ _ w => w) (fun _ _ w => Or.inl w) rfl rfl (fun _ _ => rfl) (fun _ _ => ⟨rfl, fun _ => rfl⟩) hw he, (a2.bf.tr b1.bf).tr hbf2, ?_, b1.gg.trans a2.gg⟩
  · unfold h_Bo_pledge
    rw [h_crPl h.B hX hC hfc hmp hp hx hsec hv, Option.bind_some]
    have e0 : wl S S.2.2.1 = S := rfl
    rw [e0] at a1
    rw [a1, Option.bind_some, c1, Option.bind_some, hl3]
    rfl
  · show T2.1.length ≤ _
    omega
