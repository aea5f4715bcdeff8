/-! The class builds an instruction: its legs. -/
/-- whom it awaits so far -/
def AW (S : hS) (x w : Nat) (L : List Leg) (ws : List Nat) : Prop := (S.2.1 707 x = nI ws.length) ∧ (ws.length ≤ L.length) ∧ (ws.Nodup) ∧ (∀ (j v : Nat), ws[j]? = some v → S.2.2.2.2.1 (x + 1) j = nI v) ∧ (∀ v, v ∈ ws ↔ (∃ l ∈ L, l.f = v) ∧ v ≠ w)
/-- the instruction at x, so far -/
def PG (S0 S : hS) (z : Z) (g0 g : hG) (x : Nat) (i : Ins) (L : List Leg) (ws : List Nat) : Prop := (BF S0 S) ∧ (HB S z g) ∧ (∀ P y, g0.ad P = some y → g.ad P = some y) ∧ (∀ P y, g.ad P = some y → g0.ad P = some y ∨ S.2.1 1008 y = 0) ∧ (g.2 = g0.2) ∧ (x = S0.1.length) ∧ (HE S z.mem x i) ∧ (S.2.1 700 x = nI i.who) ∧ (S.2.1 703 x = nI i.pr) ∧ (S.2.1 704 x = 0) ∧ (S.2.2.2.1 706 x = some (x + 1)) ∧ (S.1[x + 1]? = some (20, i.legs.length)) ∧ (AW S x i.who L ws)
theorem PG.bf {S0 S : hS} {z : Z} {g0 g : hG} {x : Nat} {i : Ins} {L : List Leg} {ws : List Nat} (h : PG S0 S z g0 g x i L ws) : BF S0 S := h.1
theorem PG.b {S0 S : hS} {z : Z} {g0 g : hG} {x : Nat} {i : Ins} {L : List Leg} {ws : List Nat} (h : PG S0 S z g0 g x i L ws) : HB S z g := h.2.1
theorem PG.ext {S0 S : hS} {z : Z} {g0 g : hG} {x : Nat} {i : Ins} {L : List Leg} {ws : List Nat} (h : PG S0 S z g0 g x i L ws) : ∀ P y, g0.ad P = some y → g.ad P = some y := h.2.2.1
theorem PG.new {S0 S : hS} {z : Z} {g0 g : hG} {x : Nat} {i : Ins} {L : List Leg} {ws : List Nat} (h : PG S0 S z g0 g x i L ws) : ∀ P y, g.ad P = some y → g0.ad P = some y ∨ S.2.1 1008 y = 0 := h.2.2.2.1
theorem PG.gg {S0 S : hS} {z : Z} {g0 g : hG} {x : Nat} {i : Ins} {L : List Leg} {ws : List Nat} (h : PG S0 S z g0 g x i L ws) : g.2 = g0.2 := h.2.2.2.2.1
theorem PG.at {S0 S : hS} {z : Z} {g0 g : hG} {x : Nat} {i : Ins} {L : List Leg} {ws : List Nat} (h : PG S0 S z g0 g x i L ws) : x = S0.1.length := h.2.2.2.2.2.1
theorem PG.e {S0 S : hS} {z : Z} {g0 g : hG} {x : Nat} {i : Ins} {L : List Leg} {ws : List Nat} (h : PG S0 S z g0 g x i L ws) : HE S z.mem x i := h.2.2.2.2.2.2.1
theorem PG.who {S0 S : hS} {z : Z} {g0 g : hG} {x : Nat} {i : Ins} {L : List Leg} {ws : List Nat} (h : PG S0 S z g0 g x i L ws) : S.2.1 700 x = nI i.who := h.2.2.2.2.2.2.2.1
theorem PG.pr {S0 S : hS} {z : Z} {g0 g : hG} {x : Nat} {i : Ins} {L : List Leg} {ws : List Nat} (h : PG S0 S z g0 g x i L ws) : S.2.1 703 x = nI i.pr := h.2.2.2.2.2.2.2.2.1
theorem PG.st {S0 S : hS} {z : Z} {g0 g : hG} {x : Nat} {i : Ins} {L : List Leg} {ws : List Nat} (h : PG S0 S z g0 g x i L ws) : S.2.1 704 x = 0 := h.2.2.2.2.2.2.2.2.2.1
theorem PG.rw {S0 S : hS} {z : Z} {g0 g : hG} {x : Nat} {i : Ins} {L : List Leg} {ws : List Nat} (h : PG S0 S z g0 g x i L ws) : S.2.2.2.1 706 x = some (x + 1) := h.2.2.2.2.2.2.2.2.2.2.1
theorem PG.kw {S0 S : hS} {z : Z} {g0 g : hG} {x : Nat} {i : Ins} {L : List Leg} {ws : List Nat} (h : PG S0 S z g0 g x i L ws) : S.1[x + 1]? = some (20, i.legs.length) := h.2.2.2.2.2.2.2.2.2.2.2.1
theorem PG.aw {S0 S : hS} {z : Z} {g0 g : hG} {x : Nat} {i : Ins} {L : List Leg} {ws : List Nat} (h : PG S0 S z g0 g x i L ws) : AW S x i.who L ws := h.2.2.2.2.2.2.2.2.2.2.2.2
theorem PG.gr {S0 S S' : hS} {z : Z} {g0 g g' : hG} {x : Nat} {i : Ins} {L : List Leg} {ws : List Nat} (h : PG S0 S z g0 g x i L ws) (w : GR S S' z g g') : PG S0 S' z g0 g' x i L ws := by
  have hx := len_get h.e.k
  have hx1 := len_get h.kw
  obtain ⟨a1, a2, a3, a4, a5⟩ := h.aw
  refine ⟨h.bf.tr w.bf, w.hb h.b, fun P y q => w.ext P y (h.ext P y q), fun P y q => ?_, w.gg.trans h.gg, h.at, h.e.f w.bf rfl, (w.bf.i _ _ (by decide) hx).trans h.who, (w.bf.i _ _ (by decide) hx).trans h.pr, (w.bf.i _ _ (by decide) hx).trans h.st, (w.bf.r _ _ (by decide) hx).trans h.rw, w.bf.sh.get h.kw, (w.bf.i _ _ (by decide) hx).trans a1, a2, a3, fun j v hj => by rw [w.bf.a _ hx1]; exact a4 j v hj, a5⟩
  rcases w.new P y q with c | ⟨_, _, _, _, c⟩
  · rcases h.new P y c with d | d
    · exact Or.inl d
    · exact Or.inr ((w.i _ _ (by decide) (len_get (h.b.tab.pos P y c).k)).trans d)
  · exact Or.inr c
theorem HE.hx {ki kl kr ka kb kq : List Nat} {S S' : hS} {m : List (List Nat)} {x : Nat} {i : Ins} (h : HE S m x i) (w : hX ki kl kr ka kb kq S S') (h1 : 701 ∉ ki) (h2 : 702 ∉ kl) : HE S' m x i := ⟨by rw [w.sh]; exact h.1, (w.ei _ h1 _).trans h.2.1, (w.el _ h2 _).trans h.2.2⟩
theorem PG.net {S0 S S' : hS} {z : Z} {g0 g : hG} {x m : Nat} {i : Ins} {L : List Leg} {ws : List Nat} (h : PG S0 S z g0 g x i L ws) (kc : S.1[x + 2]? = some (26, m)) (w : hX [710] [] [] [] [x + 3] [x + 2] S S') (hw : ∀ y, y ≠ x → S'.2.1 710 y = S.2.1 710 y) : PG S0 S' z g0 g x i L ws := by
  have hat := h.at
  obtain ⟨a1, a2, a3, a4, a5⟩ := h.aw
  refine ⟨⟨by rw [w.sh]; exact h.bf.sh, fun k a hk ha => ?_, fun k a hk ha => (w.el _ (by simp) _).trans (h.bf.l k a hk ha), fun k a hk ha => (w.er _ (by simp) _).trans (h.bf.r k a hk ha), fun a ha => ?_, fun a ha => ?_, fun a ha hb => ?_⟩, h.b.xk w (fun k hk => ?_) (by decide) (by decide) rfl rfl, h.ext, fun P y q => ?_, h.gg, h.at, h.e.hx w (by decide) (by simp), (w.ei _ (by decide) _).trans h.who, (w.ei _ (by decide) _).trans h.pr, (w.ei _ (by decide) _).trans h.st, (w.er _ (by simp) _).trans h.rw, by rw [w.sh]; exact h.kw, (w.ei _ (by decide) _).trans a1, a2, a3, fun j v hj => (w.ea _ (by simp) _).trans (a4 j v hj), a5⟩
  · by_cases c : k = 710
    · subst c
      rw [hw a (by omega)]; exact h.bf.i _ a hk ha
    · rw [w.ei k (by simpa using c)]; exact h.bf.i k a hk ha
  · funext j
    rw [w.ea a (by simp)]; exact congrFun (h.bf.a a ha) j
  · funext j
    rw [w.eb a (by simp; omega)]; exact congrFun (h.bf.b a ha) j
  · funext j
    rw [w.eq a (by simp; omega)]; exact congrFun (h.bf.q a ha hb) j
  · have : k = x + 2 := by simpa using hk
    subst this
    exact nbk h.b.fix kc (by decide) (by decide) (by decide) (fun b hb c => by
      have : b = x + 1 := by omega
      rw [this, h.kw] at c; cases c)
  · rcases h.new P y q with c | c
    · exact Or.inl c
    · exact Or.inr ((w.ei _ (by decide) _).trans c)
theorem PG.awt {S0 S S' : hS} {z : Z} {g0 g : hG} {x : Nat} {i : Ins} {L L' : List Leg} {ws ws' : List Nat} (h : PG S0 S z g0 g x i L ws) (w : hX [707] [] [] [x + 1] [] [] S S') (hw : ∀ y, y ≠ x → S'.2.1 707 y = S.2.1 707 y) (ha : AW S' x i.who L' ws') : PG S0 S' z g0 g x i L' ws' := by
  have hat := h.at
  refine ⟨⟨by rw [w.sh]; exact h.bf.sh, fun k a hk ha => ?_, fun k a hk ha => (w.el _ (by simp) _).trans (h.bf.l k a hk ha), fun k a hk ha => (w.er _ (by simp) _).trans (h.bf.r k a hk ha), fun a ha => ?_, fun a ha => ?_, fun a ha hb => ?_⟩, h.b.xk w (by simp) (by decide) (by decide) rfl rfl, h.ext, fun P y q => ?_, h.gg, h.at, h.e.hx w (by decide) (by simp), (w.ei _ (by decide) _).trans h.who, (w.ei _ (by decide) _).trans h.pr, (w.ei _ (by decide) _).trans h.st, (w.er _ (by simp) _).trans h.rw, by rw [w.sh]; exact h.kw, ha⟩
  · by_cases c : k = 707
    · subst c
      rw [hw a (by omega)]; exact h.bf.i _ a hk ha
    · rw [w.ei k (by simpa using c)]; exact h.bf.i k a hk ha
  · funext j
    rw [w.ea a (by simp; omega)]; exact congrFun (h.bf.a a ha) j
  · funext j
    rw [w.eb a (by simp)]; exact congrFun (h.bf.b a ha) j
  · funext j
    rw [w.eq a (by simp)]; exact congrFun (h.bf.q a ha hb) j
  · rcases h.new P y q with c | c
    · exact Or.inl c
    · exact Or.inr ((w.ei _ (by decide) _).trans c)
/-- one place more -/
theorem h_leg1 {S0 S S1 : hS} {z : Z} {g0 g g1 : hG} {x m : Nat} {i : Ins} {L : List Leg} {ws ks : List Nat} {nt : Nat → Int} (h : PG S0 S z g0 g x i L ws) (hN : NR S g.ad x m ks nt) (hi : i.legs.length = m) (hm : m ≤ 4) (hk : ks.length < 4 * m) (w : GR S S1 z g g1) {P y : Nat} (hy : g1.ad P = some y) (v : Int) : ∃ S2, h_In_addToNet x y (lI v) S1 = some S2 ∧ PG S0 S2 z g0 g1 x i L ws ∧ NR S2 g1.ad x m (addK ks P) (fun Q => if Q = P then nt Q + v else nt Q) ∧ S2.1 = S1.1 := by
  have p1 := h.gr w
  have n1 := hN.f w.bf h.b.fix (by rw [← hi]; exact h.kw) (len_get h.e.k) w.ext
  obtain ⟨S2, a1, a2, a3, a4⟩ := h_addNet n1 (fun P Q y => p1.b.tab.inj P Q y) hm hy hk v
  exact ⟨S2, a1, p1.net n1.kc a3 a4, a2, a3.sh⟩
/-- one more is awaited, or none -/
theorem h_await {S0 S : hS} {z : Z} {g0 g : hG} {x : Nat} {i : Ins} {L : List Leg} {ws : List Nat} (h : PG S0 S z g0 g x i L ws) (hw : i.who < 256) (hL : L.length < i.legs.length) (hl4 : i.legs.length ≤ 4) {l : Leg} (hf : l.f < 256) (hb : ∀ l ∈ L, l.f < 256) : ∃ S' ws', h_In_awaitUnlessSender x (nI l.f) S = some S' ∧ PG S0 S' z g0 g x i (L ++ [l]) ws' ∧ hX [707] [] [] [x + 1] [] [] S S' := by
  obtain ⟨a1, a2, a3, a4, a5⟩ := h.aw
  have hmem : ∀ v, (∃ k ∈ L ++ [l], k.f = v) ↔ (∃ k ∈ L, k.f = v) ∨ v = l.f := fun v => by
    constructor
    · rintro ⟨k, hk, e⟩
      rw [List.mem_append, List.mem_singleton] at hk
      rcases hk with c | c
      · exact Or.inl ⟨k, c, e⟩
      · rw [c] at e; exact Or.inr e.symm
    · rintro (⟨k, c, e⟩ | c)
      · exact ⟨k, List.mem_append_left _ c, e⟩
      · exact ⟨l, by simp, c.symm⟩
  have hlen : (L ++ [l]).length = L.length + 1 := by rw [List.length_append, List.length_singleton]
  have keep : (l.f ∈ ws ∨ l.f = i.who) → AW S x i.who (L ++ [l]) ws := fun c => ⟨a1, by omega, a3, a4, fun v => by
    rw [a5 v, hmem v]
    constructor
    · rintro ⟨d1, d2⟩; exact ⟨Or.inl d1, d2⟩
    · rintro ⟨d1 | d1, d2⟩
      · exact ⟨d1, d2⟩
      · rcases c with c | c
        · rw [d1]; exact (a5 l.f).mp c
        · exact absurd (d1.trans c) d2⟩
  unfold h_In_awaitUnlessSender
  rw [h.who]
  by_cases c1 : l.f = i.who
  · rw [if_pos (by rw [c1])]
    exact ⟨S, ws, rfl, h.awt hX.rf (fun _ _ => rfl) (keep (Or.inr c1)), hX.rf⟩
  · rw [if_neg (fun q => c1 (nI_inj (by omega) (by omega) q))]
    have hvb : ∀ v ∈ ws, v < 256 := fun v hv => by
      obtain ⟨⟨k, hk, e⟩, _⟩ := (a5 v).mp hv
      rw [← e]; exact hb k hk
    -- the awaited, as a whole instruction would have them
    obtain ⟨i', hi'⟩ : ∃ i' : Ins, i' = mkIns i.who i.nm i.pr i.tn (L ++ List.replicate (i.legs.length - L.length) (mkLeg i.who i.who 0 0)) [i.who] := ⟨_, rfl⟩
    have hi'l : i'.legs = L ++ List.replicate (i.legs.length - L.length) (mkLeg i.who i.who 0 0) := by rw [hi']; rfl
    have hi'n : i'.legs.length = i.legs.length := by rw [hi'l, List.length_append, List.length_replicate]; omega
    have hW : HW S x i' ws := ⟨h.rw, by rw [hi'n]; exact h.kw, a1, by omega, a3, a4, fun v => by
      rw [a5 v, hi'l]
      have : i'.ag = [i.who] := by rw [hi']; rfl
      rw [this, List.mem_singleton]
      constructor
      · rintro ⟨⟨k, hk, e⟩, d⟩; exact ⟨⟨k, List.mem_append_left _ hk, e⟩, d⟩
      · rintro ⟨⟨k, hk, e⟩, d⟩
        rcases List.mem_append.mp hk with c | c
        · exact ⟨⟨k, c, e⟩, d⟩
        · exfalso
          rw [List.eq_of_mem_replicate c] at e
          exact d e.symm⟩
    rw [h_awaits hW (by omega) hf hvb, Option.bind_some]
    by_cases c2 : l.f ∈ ws
    · rw [decide_eq_true c2, if_pos (by decide)]
      exact ⟨S, ws, rfl, h.awt hX.rf (fun _ _ => rfl) (keep (Or.inl c2)), hX.rf⟩
    · rw [decide_eq_false c2, if_neg (by decide), h.rw, Option.bind_some, hln_of h.kw, a1, if_neg (show ¬ Int32.ofNat i.legs.length ≤ nI ws.length from nI_ngt (by omega) (by omega) (by omega)), ix_N (by omega) (by omega), Option.bind_some, nI_add1]
      obtain ⟨S2, hS2⟩ : ∃ S2, S2 = hpI (hpA S (x + 1) ws.length (nI l.f)) 707 x (nI (ws.length + 1)) := ⟨_, rfl⟩
      have w : hX [707] [] [] [x + 1] [] [] S S2 := by rw [hS2]; exact (hX.rf.pA (by simp)).pI (by simp)
      refine ⟨S2, ws ++ [l.f], by rw [hS2], h.awt w (fun y hy => by rw [hS2]; simp [hpI, hpA, up2, hy]) ⟨?_, ?_, ?_, fun j v hj => ?_, fun v => ?_⟩, w⟩
      · rw [List.length_append, List.length_singleton, hS2]; simp [hpI, up2]
      · rw [hlen, List.length_append, List.length_singleton]; omega
      · have := nodup_addK (P := l.f) a3
        rw [show addK ws l.f = ws ++ [l.f] from if_neg c2] at this
        exact this
      · rw [hS2]
        show up2 S.2.2.2.2.1 (x + 1) ws.length (nI l.f) (x + 1) j = _
        rw [up2_at]
        rcases get_snoc' hj with c | ⟨c3, c4⟩
        · rw [if_neg (by have := get_lt' c; omega)]; exact a4 j v c
        · rw [if_pos c3, c4]
      · rw [List.mem_append, List.mem_singleton, a5 v, hmem v]
        constructor
        · rintro (⟨d1, d2⟩ | d)
          · exact ⟨Or.inl d1, d2⟩
          · exact ⟨Or.inr d, fun q => c1 (d.symm.trans q)⟩
        · rintro ⟨d1 | d1, d2⟩
          · exact Or.inl ⟨d1, d2⟩
          · exact Or.inr d1
