/-! The class: a day begins. -/
def Z.dayD (z : Z) (D : Nat → Bool) : Z := ((z.1.1, z.1.2.1, z.1.2.2.1, z.1.2.2.2.1, (fun P => if D P then z.pos P else z.beg P), z.1.2.2.2.2.2), (z.pos, (fun P => if D P then 0 else z.wnt P), (fun P => if D P then 0 else z.cam P), (fun P => if D P then 0 else z.mv P), (fun k => if D (16384 + k) then 0 else z.paid k)), z.2.2)
def orD (D : Nat → Bool) (P : Nat) : Nat → Bool := fun Q => D Q || decide (Q = P)
theorem orD_ne {D : Nat → Bool} {P Q : Nat} (h : Q ≠ P) : orD D P Q = D Q := by
  unfold orD
  rw [decide_eq_false h, Bool.or_false]
theorem orD_eq (D : Nat → Bool) (P : Nat) : orD D P P = true := by
  unfold orD
  simp
theorem day_lev (z : Z) (D : Nat → Bool) (P : Nat) : (z.dayD D).lev P = if P < 16384 then z.pos P else if D P then 0 else z.lev P := by
  unfold Z.lev
  by_cases h : P < 16384
  · rw [if_pos h, if_pos h]; rfl
  · rw [if_neg h, if_neg h]
    have e : ∀ k, (z.dayD D).paid k = if D (16384 + k) then 0 else z.paid k := fun _ => rfl
    rw [e, show 16384 + (P - 16384) = P by omega]
    by_cases hd : D P = true
    · rw [if_pos hd, if_pos hd]; rfl
    · rw [if_neg hd, if_neg hd, if_neg h]
/-- positions at addresses other than y stay; the one of P is begun anew -/
theorem HT.day1 {S S' : hS} {z : Z} {D : Nat → Bool} {ad : Nat → Option Nat} (h : HT S (z.dayD D) ad) {P y : Nat} (hy : ad P = some y) (w : hX [1007] [1001, 1004, 1005, 1006] [] [] [] [] S S') (w1 : ∀ x, x ≠ y → S'.2.1 1007 x = S.2.1 1007 x ∧ S'.2.2.1 1001 x = S.2.2.1 1001 x ∧ S'.2.2.1 1004 x = S.2.2.1 1004 x ∧ S'.2.2.1 1005 x = S.2.2.1 1005 x ∧ S'.2.2.1 1006 x = S.2.2.1 1006 x) (hl : S'.2.2.1 1001 y = if P < 16384 then S.2.2.1 1001 y else 0) (hd : P < 16384 → S'.2.2.1 1004 y = S.2.2.1 1001 y ∧ S'.2.2.1 1005 y = 0 ∧ S'.2.2.1 1006 y = 0 ∧ S'.2.1 1007 y = 0) : HT S' (z.dayD (orD D P)) ad := by
  refine ⟨fun Q x hx => ?_, h.inr, h.inj, fun Q hQ hn => ?_, fun k hk hn => ?_⟩
  · have hp := h.pos Q x hx
    by_cases hQ : Q = P
    · subst hQ
      rw [hy] at hx; cases hx
      refine ⟨by rw [w.sh]; exact hp.k, ?_, (w.ei _ (by decide) _).trans hp.fld, fun c => (w.el _ (by decide) _).trans (hp.flr c), fun c => ?_, fun c => (w.ei _ (by decide) _).trans (hp.tow c)⟩
      · rw [hl, day_lev, orD_eq]
        by_cases hQl : Q < 16384
        · rw [if_pos hQl, if_pos hQl, hp.lev, day_lev, if_pos hQl]
        · rw [if_neg hQl, if_neg hQl, if_pos rfl]; rfl
      · obtain ⟨d1, d2, d3, d4⟩ := hd c
        rw [d1, d2, d3, d4, hp.lev, day_lev, if_pos c]
        refine ⟨?_, ?_, ?_, ?_⟩
        · show _ = lI (if orD D Q Q then z.pos Q else z.beg Q)
          rw [orD_eq]; rfl
        · show _ = lI (if orD D Q Q then 0 else z.wnt Q)
          rw [orD_eq]; rfl
        · show _ = lI (if orD D Q Q then 0 else z.cam Q)
          rw [orD_eq]; rfl
        · show _ = nI (if orD D Q Q then 0 else z.mv Q)
          rw [orD_eq]; rfl
    · have hxy : x ≠ y := fun c => hQ (h.inj Q P y (by rw [← c]; exact hx) hy)
      obtain ⟨g0, g1, g2, g3, g4⟩ := w1 x hxy
      refine ⟨by rw [w.sh]; exact hp.k, ?_, (w.ei _ (by decide) _).trans hp.fld, fun c => (w.el _ (by decide) _).trans (hp.flr c), fun c => ⟨?_, ?_, ?_, ?_⟩, fun c => (w.ei _ (by decide) _).trans (hp.tow c)⟩
      · rw [g1, hp.lev, day_lev, day_lev, orD_ne hQ]
      · rw [g2, (hp.day c).1]
        show lI (if D Q then z.pos Q else z.beg Q) = lI (if orD D P Q then z.pos Q else z.beg Q)
        rw [orD_ne hQ]
      · rw [g3, (hp.day c).2.1]
        show lI (if D Q then 0 else z.wnt Q) = lI (if orD D P Q then 0 else z.wnt Q)
        rw [orD_ne hQ]
      · rw [g4, (hp.day c).2.2.1]
        show lI (if D Q then 0 else z.cam Q) = lI (if orD D P Q then 0 else z.cam Q)
        rw [orD_ne hQ]
      · rw [g0, (hp.day c).2.2.2]
        show nI (if D Q then 0 else z.mv Q) = nI (if orD D P Q then 0 else z.mv Q)
        rw [orD_ne hQ]
  · have hQ2 : Q ≠ P := fun c => by rw [c, hy] at hn; cases hn
    obtain ⟨a1, a2, a3, a4, a5, a6⟩ := h.acc0 Q hQ hn
    refine ⟨a1, a2, ?_, ?_, ?_, ?_⟩
    · show (if orD D P Q then z.pos Q else z.beg Q) = 0
      rw [orD_ne hQ2]; exact a3
    · show (if orD D P Q then 0 else z.wnt Q) = 0
      rw [orD_ne hQ2]; exact a4
    · show (if orD D P Q then 0 else z.cam Q) = 0
      rw [orD_ne hQ2]; exact a5
    · show (if orD D P Q then 0 else z.mv Q) = 0
      rw [orD_ne hQ2]; exact a6
  · have hQ2 : 16384 + k ≠ P := fun c => by rw [c, hy] at hn; cases hn
    obtain ⟨a1, a2⟩ := h.rom0 k hk hn
    refine ⟨?_, a2⟩
    show (if orD D P (16384 + k) then 0 else z.paid k) = 0
    rw [orD_ne hQ2]; exact a1
/-- where there is no position there is nothing to begin -/
theorem HT.day0 {S : hS} {z : Z} {D : Nat → Bool} {ad : Nat → Option Nat} (h : HT S (z.dayD D) ad) {P : Nat} (hy : ad P = none) : HT S (z.dayD (orD D P)) ad := by
  have hne : ∀ Q x, ad Q = some x → Q ≠ P := fun Q x hx c => by rw [c, hy] at hx; cases hx
  refine ⟨fun Q x hx => ?_, h.inr, h.inj, fun Q hQ hn => ?_, fun k hk hn => ?_⟩
  · have hp := h.pos Q x hx
    have hQ := hne Q x hx
    refine ⟨hp.k, ?_, hp.fld, hp.flr, fun c => ⟨?_, ?_, ?_, ?_⟩, hp.tow⟩
    · rw [hp.lev, day_lev, day_lev, orD_ne hQ]
    · rw [(hp.day c).1]
      show lI (if D Q then z.pos Q else z.beg Q) = lI (if orD D P Q then z.pos Q else z.beg Q)
      rw [orD_ne hQ]
    · rw [(hp.day c).2.1]
      show lI (if D Q then 0 else z.wnt Q) = lI (if orD D P Q then 0 else z.wnt Q)
      rw [orD_ne hQ]
    · rw [(hp.day c).2.2.1]
      show lI (if D Q then 0 else z.cam Q) = lI (if orD D P Q then 0 else z.cam Q)
      rw [orD_ne hQ]
    · rw [(hp.day c).2.2.2]
      show nI (if D Q then 0 else z.mv Q) = nI (if orD D P Q then 0 else z.mv Q)
      rw [orD_ne hQ]
  · obtain ⟨a1, a2, a3, a4, a5, a6⟩ := h.acc0 Q hQ hn
    have b3 : (if D Q then z.pos Q else z.beg Q) = 0 := a3
    have b4 : (if D Q then 0 else z.wnt Q) = 0 := a4
    have b5 : (if D Q then 0 else z.cam Q) = 0 := a5
    have b6 : (if D Q then 0 else z.mv Q) = 0 := a6
    have b1 : z.pos Q = 0 := a1
    refine ⟨a1, a2, ?_, ?_, ?_, ?_⟩
    · show (if orD D P Q then z.pos Q else z.beg Q) = 0
      by_cases hq : Q = P
      · rw [hq, orD_eq, if_pos rfl, ← hq]; exact b1
      · rw [orD_ne hq]; exact b3
    · show (if orD D P Q then 0 else z.wnt Q) = 0
      by_cases hq : Q = P
      · rw [hq, orD_eq, if_pos rfl]
      · rw [orD_ne hq]; exact b4
    · show (if orD D P Q then 0 else z.cam Q) = 0
      by_cases hq : Q = P
      · rw [hq, orD_eq, if_pos rfl]
      · rw [orD_ne hq]; exact b5
    · show (if orD D P Q then 0 else z.mv Q) = 0
      by_cases hq : Q = P
      · rw [hq, orD_eq, if_pos rfl]
      · rw [orD_ne hq]; exact b6
  · obtain ⟨a1, a2⟩ := h.rom0 k hk hn
    refine ⟨?_, a2⟩
    have b1 : (if D (16384 + k) then 0 else z.paid k) = 0 := a1
    show (if orD D P (16384 + k) then 0 else z.paid k) = 0
    by_cases hq : 16384 + k = P
    · rw [hq, orD_eq, if_pos rfl]
    · rw [orD_ne hq]; exact b1
abbrev dX (S S' : hS) : Prop := hX [1007] [1001, 1004, 1005, 1006] [] [] [] [] S S'
/-- the structure that a day's beginning goes through stays -/
def HS (S : hS) (z : Z) (g : hG) : Prop := (S.2.1 401 10 = nI z.mem.length) ∧ (S.2.1 403 10 = nI z.ast.length) ∧ (∀ p c, z.mem[p]? = some c → HM S z g p c)
theorem HS.mem {S : hS} {z : Z} {g : hG} (h : HS S z g) : S.2.1 401 10 = nI z.mem.length := h.1
theorem HS.asn {S : hS} {z : Z} {g : hG} (h : HS S z g) : S.2.1 403 10 = nI z.ast.length := h.2.1
theorem HS.par {S : hS} {z : Z} {g : hG} (h : HS S z g) : ∀ p c, z.mem[p]? = some c → HM S z g p c := h.2.2
theorem HS.x {S S' : hS} {z : Z} {g : hG} (h : HS S z g) (hf : hE hs_fix S.1) (w : dX S S') : HS S' z g := ⟨(w.ei _ (by decide) _).trans h.mem, (w.ei _ (by decide) _).trans h.asn, fun p c hp => (h.par p c hp).x w hf (by simp) (by decide) (by decide) (by simp) rfl⟩
theorem h_day_acc {z : Z} {g : hG} (hXk : okX z) {p : Nat} (hp : p < z.mem.length) : ∀ (d fu a : Nat) (S : hS) (D : Nat → Bool), hE hs_fix S.1 → HS S z g → HT S (z.dayD D) g.ad → z.ast.length - a = d → d < fu → a ≤ z.ast.length → ∃ S' D', hl_Bo_beginDay_22 fu (nI p) (some (g.pb p + 1)) (nI a) S = some S' ∧ HT S' (z.dayD D') g.ad ∧ (∀ P, D P = true → D' P = true) ∧ (∀ b, a ≤ b → b < z.ast.length → D' (64 * p + b) = true) ∧ dX S S' := by
  have hs := hXk.ast
  have hm := hXk.mem
  intro d
  induction d with
  | zero =>
    intro fu a S D hf hSt hT hd hfu ha
    obtain ⟨fu, rfl⟩ : ∃ f, fu = f + 1 := ⟨fu - 1, by omega⟩
    refine ⟨S, D, ?_, hT, fun _ h => h, fun b h1 h2 => by omega, hX.rf⟩
    unfold hl_Bo_beginDay_22
    rw [hSt.asn, if_pos (nI_le0 (by omega) (by omega) (by omega))]
  | succ d ih =>
    intro fu a S D hf hSt hT hd hfu ha
    obtain ⟨fu, rfl⟩ : ∃ f, fu = f + 1 := ⟨fu - 1, by omega⟩
    obtain ⟨c, hc⟩ := get_lt (ks := z.mem) hp
    have hM := hSt.par p c hc
    have hun : hl_Bo_beginDay_22 (fu + 1) (nI p) (some (g.pb p + 1)) (nI a) S = ((if g.ad (64 * p + a) = none then (some S) else ((g.ad (64 * p + a)).bind fun b26 => ((h_Po_beginDay b26 S).bind fun q30 => (some q30)))).bind fun (u17 : hS) => (hl_Bo_beginDay_22 fu (nI p) (some (g.pb p + 1)) (nI (a + 1)) u17)) := by
      conv => lhs; unfold hl_Bo_beginDay_22
      rw [hSt.asn, if_neg (nI_ngt (by omega) (by omega) (by omega)), Option.bind_some, hln_of hM.ack, ix_N (by omega) (by omega), Option.bind_some, hM.acc a (by omega), nI_add1]
    have fin : ∀ S1, dX S S1 → HT S1 (z.dayD (orD D (64 * p + a))) g.ad → hl_Bo_beginDay_22 (fu + 1) (nI p) (some (g.pb p + 1)) (nI a) S = hl_Bo_beginDay_22 fu (nI p) (some (g.pb p + 1)) (nI (a + 1)) S1 → ∃ S' D', hl_Bo_beginDay_22 (fu + 1) (nI p) (some (g.pb p + 1)) (nI a) S = some S' ∧ HT S' (z.dayD D') g.ad ∧ (∀ P, D P = true → D' P = true) ∧ (∀ b, a ≤ b → b < z.ast.length → D' (64 * p + b) = true) ∧ dX S S' := fun S1 w hT1 e => by
      obtain ⟨S', D', b1, b2, b3, b4, b5⟩ := ih fu (a + 1) S1 _ (by rw [w.sh]; exact hf) (hSt.x hf w) hT1 (by omega) (by omega) (by omega)
      refine ⟨S', D', e.trans b1, b2, fun P hP => b3 P (by unfold orD; rw [hP]; rfl), fun b h1 h2 => ?_, w.tr b5⟩
      by_cases hb : b = a
      · rw [hb]; exact b3 _ (orD_eq D _)
      · exact b4 b (by omega) h2
    cases had : g.ad (64 * p + a) with
    | none =>
      rw [had, if_pos rfl, Option.bind_some] at hun
      exact fin S hX.rf (hT.day0 had) hun
    | some y =>
      rw [had, if_neg (by simp), Option.bind_some] at hun
      unfold h_Po_beginDay at hun
      rw [Option.bind_some, Option.bind_some] at hun
      have w : dX S (hpI (hpL (hpL (hpL S 1004 y (S.2.2.1 1001 y)) 1005 y 0) 1006 y 0) 1007 y 0) := (((hX.rf.pL (by decide)).pL (by decide)).pL (by decide)).pI (by decide)
      refine fin _ w (hT.day1 had w (fun x hx => ⟨?_, ?_, ?_, ?_, ?_⟩) ?_ (fun _ => ⟨?_, ?_, ?_, ?_⟩)) hun
      · simp [hpI, hpL, up2, hx]
      · simp [hpI, hpL, up2]
      · simp [hpI, hpL, up2, hx]
      · simp [hpI, hpL, up2, hx]
      · simp [hpI, hpL, up2, hx]
      · rw [if_pos (by omega)]; simp [hpI, hpL, up2]
      · simp [hpI, hpL, up2]
      · simp [hpI, hpL, up2]
      · simp [hpI, hpL, up2]
      · simp [hpI, hpL, up2]
theorem h_day_rom {z : Z} {g : hG} (hXk : okX z) {p e : Nat} {ts : List Nat} (hp : p < z.mem.length) (hel : ts.length ≤ 400) (a7 : ∀ (j t : Nat), ts[j]? = some t → t < 256) : ∀ (d fu j : Nat) (S : hS) (D : Nat → Bool), HT S (z.dayD D) g.ad → S.2.2.2.1 1300 (g.pb p + 2) = some e → S.2.1 1301 (g.pb p + 2) = nI ts.length → ts.length ≤ hlq S.1 e → hlq S.1 e ≤ 400 → (∀ (j t : Nat), ts[j]? = some t → ∃ x, S.2.2.2.2.2.2 e j = some x ∧ g.ad (16384 + (256 * p + t)) = some x) → ts.length - j = d → d < fu → j ≤ ts.length → ∃ S' D', hl_Bo_beginDay_61 fu (nI p) (some (g.pb p + 2)) (nI j) S = some S' ∧ HT S' (z.dayD D') g.ad ∧ (∀ P, D P = true → D' P = true) ∧ (∀ t ∈ ts.drop j, D' (16384 + (256 * p + t)) = true) ∧ dX S S' := by
  have hm := hXk.mem
  intro d
  induction d with
  | zero =>
    intro fu j S D hT h1 h2 h3 h4 h5 hd hf hj
    obtain ⟨fu, rfl⟩ : ∃ f, fu = f + 1 := ⟨fu - 1, by omega⟩
    refine ⟨S, D, ?_, hT, fun _ h => h, fun t ht => ?_, hX.rf⟩
    · unfold hl_Bo_beginDay_61 h_AL13_size
      rw [Option.bind_some, Option.bind_some, h2, if_pos (nI_le0 (by omega) (by omega) (by omega))]
    · rw [List.drop_of_length_le (by omega)] at ht; cases ht
  | succ d ih =>
    intro fu j S D hT h1 h2 h3 h4 h5 hd hf hj
    obtain ⟨fu, rfl⟩ : ∃ f, fu = f + 1 := ⟨fu - 1, by omega⟩
    obtain ⟨t, ht⟩ := get_lt (ks := ts) (j := j) (by omega)
    obtain ⟨x, x1, x2⟩ := h5 j t ht
    have t2 := a7 j t ht
    have w : dX S (hpL S 1001 x 0) := hX.rf.pL (by decide)
    have hT1 : HT (hpL S 1001 x 0) (z.dayD (orD D (16384 + (256 * p + t)))) g.ad := by
      refine hT.day1 x2 w (fun v hv => ⟨rfl, ?_, ?_, ?_, ?_⟩) ?_ (fun c => by omega)
      · simp [hpL, up2, hv]
      · simp [hpL, up2]
      · simp [hpL, up2]
      · simp [hpL, up2]
      · rw [if_neg (by omega)]; simp [hpL, up2]
    obtain ⟨S', D', b1, b2, b3, b4, b5⟩ := ih fu (j + 1) (hpL S 1001 x 0) _ hT1 h1 h2 h3 h4 h5 (by omega) (by omega) (by omega)
    refine ⟨S', D', ?_, b2, fun P hP => b3 P (by unfold orD; rw [hP]; rfl), fun s hs => ?_, w.tr b5⟩
    · unfold hl_Bo_beginDay_61 h_AL13_size
      rw [Option.bind_some, Option.bind_some, h2, if_neg (nI_ngt (by omega) (by omega) (by omega)), h_get13 h1 h2 h3 h4 (get_lt' ht) x1, Option.bind_some, Option.bind_some, nI_add1, b1]
    · rw [drop_cons ht] at hs
      rcases List.mem_cons.mp hs with q | q
      · rw [q]; exact b3 _ (orD_eq D _)
      · exact b4 s q
theorem h_day_loop {z : Z} {g : hG} (hXk : okX z) : ∀ (d fu p : Nat) (S : hS) (D : Nat → Bool), hE hs_fix S.1 → HS S z g → HT S (z.dayD D) g.ad → (∀ P x, g.ad P = some x → (P < 16384 → P / 64 < p → D P = true) ∧ (16384 ≤ P → (P - 16384) / 256 < p → D P = true)) → z.mem.length - p = d → d < fu → p ≤ z.mem.length → ∃ S' D', hl_Bo_beginDay_2 fu (nI p) S = some S' ∧ HT S' (z.dayD D') g.ad ∧ (∀ P x, g.ad P = some x → D' P = true) ∧ dX S S' := by
  have hm := hXk.mem
  have hs := hXk.ast
  intro d
  induction d with
  | zero =>
    intro fu p S D hf hSt hT hD hd hfu hp
    obtain ⟨fu, rfl⟩ : ∃ f, fu = f + 1 := ⟨fu - 1, by omega⟩
    refine ⟨S, D, ?_, hT, fun P x hx => ?_, hX.rf⟩
    · unfold hl_Bo_beginDay_2
      rw [hSt.mem, if_pos (nI_le0 (by omega) (by omega) (by omega))]
    · have hin : inP z P := hT.inr P x hx
      unfold inP at hin
      rcases hin with c | c
      · exact (hD P x hx).1 c.1 (by omega)
      · exact (hD P x hx).2 c.1 (by omega)
  | succ d ih =>
    intro fu p S D hf hSt hT hD hd hfu hp
    obtain ⟨fu, rfl⟩ : ∃ f, fu = f + 1 := ⟨fu - 1, by omega⟩
    obtain ⟨c, hc⟩ := get_lt (ks := z.mem) (j := p) (by omega)
    have hM := hSt.par p c hc
    obtain ⟨S1, D1, a1, a2, a3, a4, a5⟩ := h_day_acc hXk (p := p) (by omega) _ 100000 0 S D hf hSt hT rfl (by omega) (by omega)
    have hS1 := hSt.x hf a5
    have hf1 : hE hs_fix S1.1 := by rw [a5.sh]; exact hf
    have hM1 := hS1.par p c hc
    obtain ⟨e, ts, r1, r2, r3, r4, r5, r6, r7, r8⟩ := hM1.rom
    obtain ⟨S2, D2, b1, b2, b3, b4, b5⟩ := h_day_rom hXk (p := p) (e := e) (ts := ts) (by omega) (by omega) (fun j t hj => (r7 j t hj).1) _ 100000 0 S1 D1 a2 r1 r4 r5 r3 (fun j t hj => (r7 j t hj).2) rfl (by omega) (by omega)
    have hD2 : ∀ P x, g.ad P = some x → (P < 16384 → P / 64 < p + 1 → D2 P = true) ∧ (16384 ≤ P → (P - 16384) / 256 < p + 1 → D2 P = true) := by
      intro P x hx
      have hin : inP z P := hT.inr P x hx
      unfold inP at hin
      refine ⟨fun h1 h2 => ?_, fun h1 h2 => ?_⟩
      · by_cases hq : P / 64 < p
        · exact b3 _ (a3 _ ((hD P x hx).1 h1 hq))
        · have := a4 (P % 64) (by omega) (by omega)
          rw [show 64 * p + P % 64 = P by omega] at this
          exact b3 _ this
      · by_cases hq : (P - 16384) / 256 < p
        · exact b3 _ (a3 _ ((hD P x hx).2 h1 hq))
        · have hPe : P = 16384 + (256 * p + (P - 16384) % 256) := by omega
          have ht : (P - 16384) % 256 ∈ ts := by
            by_cases w : (P - 16384) % 256 ∈ ts
            · exact w
            · have := r8 _ (by omega) w
              rw [← hPe, hx] at this; cases this
          have := b4 _ (by rw [List.drop_zero]; exact ht)
          rw [← hPe] at this
          exact this
    obtain ⟨S', D', c1, c2, c3, c4⟩ := ih fu (p + 1) S2 D2 (by rw [b5.sh]; exact hf1) (hS1.x hf1 b5) b2 hD2 (by omega) (by omega) (by omega)
    refine ⟨S', D', ?_, c2, c3, (a5.tr b5).tr c4⟩
    unfold hl_Bo_beginDay_2
    have a1' : hl_Bo_beginDay_22 100000 (nI p) (some (g.pb p + 1)) 0 S = some S1 := a1
    have b1' : hl_Bo_beginDay_61 100000 (nI p) (some (g.pb p + 2)) 0 S1 = some S2 := b1
    rw [hSt.mem, if_neg (nI_ngt (by omega) (by omega) (by omega)), ix_N (by omega) (by omega), Option.bind_some, hM.at, Option.bind_some, hM.acr, a1', Option.bind_some, hM1.at, Option.bind_some, hM1.rlr, b1', Option.bind_some, nI_add1, c1]
def Z.newD (z : Z) : Z := z.dayD fun _ => true
/-- a day begins in the books -/
theorem h_beginDay {S : hS} {z : Z} {g : hG} {q u : List Ins} {L : Nat} {es : List (Ins × Bool)} (h : HZ S z g q u L es) (hXk : okX z) (hw : ∀ i ∈ z.ins, i.who < z.mem.length) (he : ∀ e ∈ es, e.1.who < z.mem.length) : ∃ S', h_Bo_beginDay S = some S' ∧ HZ S' z.newD g q u L es ∧ BF S S' ∧ dX S S' := by
  have hm := hXk.mem
  have hT0 : HT S (z.dayD fun _ => false) g.ad := ⟨fun P x hx => by
    have hp := h.B.tab.pos P x hx
    exact ⟨hp.k, by
      rw [hp.lev, day_lev]
      by_cases hP : P < 16384
      · rw [if_pos hP, lev_a hP]
      · rw [if_neg hP]; rfl, hp.fld, hp.flr, hp.day, hp.tow⟩, h.B.tab.inr, h.B.tab.inj, h.B.tab.acc0, h.B.tab.rom0⟩
  obtain ⟨S', D, a1, a2, a3, a4⟩ := h_day_loop hXk _ 100000 0 S (fun _ => false) h.B.fix ⟨h.B.mem, h.B.asn, h.B.par⟩ hT0 (fun P x _ => ⟨fun _ c => by omega, fun _ c => by omega⟩) rfl (by omega) (by omega)
  have hT : HT S' z.newD g.ad := by
    refine ⟨fun P x hx => ?_, h.B.tab.inr, h.B.tab.inj, fun P hP hn => ?_, fun k hk hn => ?_⟩
    · have hp := a2.pos P x hx
      have hD := a3 P x hx
      refine ⟨hp.k, ?_, hp.fld, hp.flr, fun c => ⟨?_, ?_, ?_, ?_⟩, hp.tow⟩
      · rw [hp.lev, day_lev]
        show _ = lI ((z.dayD fun _ => true).lev P)
        rw [day_lev, hD]
      · rw [(hp.day c).1]
        show lI (if D P then z.pos P else z.beg P) = lI (z.pos P)
        rw [hD]; rfl
      · rw [(hp.day c).2.1]
        show lI (if D P then 0 else z.wnt P) = lI 0
        rw [hD]; rfl
      · rw [(hp.day c).2.2.1]
        show lI (if D P then 0 else z.cam P) = lI 0
        rw [hD]; rfl
      · rw [(hp.day c).2.2.2]
        show nI (if D P then 0 else z.mv P) = nI 0
        rw [hD]; rfl
    · obtain ⟨b1, b2, b3, b4, b5, b6⟩ := h.B.tab.acc0 P hP hn
      exact ⟨b1, b2, b1, rfl, rfl, rfl⟩
    · obtain ⟨b1, b2⟩ := h.B.tab.rom0 k hk hn
      exact ⟨rfl, b2⟩
  have bf : BF S S' := BF.ofX a4 (by decide) (by decide) (by simp) (by simp)
  refine ⟨S', ?_, h.b bf (h.B.x' a4 (by simp) (by decide) (by decide) (by simp) rfl rfl rfl rfl ((a4.ei _ (by decide) _).trans h.B.lims) hT) (fun _ _ c => c) (fun _ _ c => Or.inl c) rfl rfl (fun _ _ => rfl) (fun _ _ => ⟨rfl, fun _ => rfl⟩) hw he, bf, a4⟩
  unfold h_Bo_beginDay
  have a1' : hl_Bo_beginDay_2 100000 0 S = some S' := a1
  rw [a1']; rfl
