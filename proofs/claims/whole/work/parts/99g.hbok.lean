/-! The class's books: looking things up; a new account. -/
theorem len_get {sh : List (Nat × Nat)} {b : Nat} {p : Nat × Nat} (h : sh[b]? = some p) : b < sh.length := (List.getElem?_eq_some_iff.mp h).1
/-- arrays of references that belong to the books -/
def bk (sh : List (Nat × Nat)) (k : Nat) : Prop := k = 11 ∨ k = 12 ∨ hK sh k 28 ∨ ∃ b, k = b + 1 ∧ sh[b]? = some (9, 0)
abbrev bI : List Nat := [300, 301, 303, 401, 403, 404, 405, 900, 901, 1000, 1002, 1007, 1301, 1302]
abbrev bL : List Nat := [302, 406, 904, 1001, 1003, 1004, 1005, 1006]
abbrev bR : List Nat := [902, 903, 1300]
/-- only the books have changed, and there may be new cells -/
def BF (S S' : hS) : Prop := (hE S.1 S'.1) ∧ (∀ k a, k ∉ bI → a < S.1.length → S'.2.1 k a = S.2.1 k a) ∧ (∀ k a, k ∉ bL → a < S.1.length → S'.2.2.1 k a = S.2.2.1 k a) ∧ (∀ k a, k ∉ bR → a < S.1.length → S'.2.2.2.1 k a = S.2.2.2.1 k a) ∧ (∀ a, a < S.1.length → S'.2.2.2.2.1 a = S.2.2.2.2.1 a) ∧ (∀ a, a < S.1.length → S'.2.2.2.2.2.1 a = S.2.2.2.2.2.1 a) ∧ (∀ a, a < S.1.length → ¬ bk S.1 a → S'.2.2.2.2.2.2 a = S.2.2.2.2.2.2 a)
theorem BF.sh {S S' : hS} (h : BF S S') : hE S.1 S'.1 := h.1
theorem BF.i {S S' : hS} (h : BF S S') : ∀ k a, k ∉ bI → a < S.1.length → S'.2.1 k a = S.2.1 k a := h.2.1
theorem BF.l {S S' : hS} (h : BF S S') : ∀ k a, k ∉ bL → a < S.1.length → S'.2.2.1 k a = S.2.2.1 k a := h.2.2.1
theorem BF.r {S S' : hS} (h : BF S S') : ∀ k a, k ∉ bR → a < S.1.length → S'.2.2.2.1 k a = S.2.2.2.1 k a := h.2.2.2.1
theorem BF.a {S S' : hS} (h : BF S S') : ∀ a, a < S.1.length → S'.2.2.2.2.1 a = S.2.2.2.2.1 a := h.2.2.2.2.1
theorem BF.b {S S' : hS} (h : BF S S') : ∀ a, a < S.1.length → S'.2.2.2.2.2.1 a = S.2.2.2.2.2.1 a := h.2.2.2.2.2.1
theorem BF.q {S S' : hS} (h : BF S S') : ∀ a, a < S.1.length → ¬ bk S.1 a → S'.2.2.2.2.2.2 a = S.2.2.2.2.2.2 a := h.2.2.2.2.2.2
theorem hE.len {s t : List (Nat × Nat)} (h : hE s t) : s.length ≤ t.length := h.le
theorem hE.back {s t : List (Nat × Nat)} (h : hE s t) {a : Nat} (ha : a < s.length) : t[a]? = s[a]? := by
  obtain ⟨u, rfl⟩ := h
  rw [List.getElem?_append_left ha]
theorem bk_up {s t : List (Nat × Nat)} (h : hE s t) {a : Nat} (ha : a < s.length) : bk t a → bk s a := by
  rintro (h1 | h1 | ⟨n, h1⟩ | ⟨b, h1, h2⟩)
  · exact Or.inl h1
  · exact Or.inr (Or.inl h1)
  · exact Or.inr (Or.inr (Or.inl ⟨n, by rw [← h.back ha]; exact h1⟩))
  · exact Or.inr (Or.inr (Or.inr ⟨b, h1, by rw [← h.back (by omega)]; exact h2⟩))
theorem BF.rf {S : hS} : BF S S := ⟨hE.rf, fun _ _ _ _ => rfl, fun _ _ _ _ => rfl, fun _ _ _ _ => rfl, fun _ _ => rfl, fun _ _ => rfl, fun _ _ _ => rfl⟩
theorem BF.tr {S S1 S2 : hS} (h1 : BF S S1) (h2 : BF S1 S2) : BF S S2 := by
  have hl := h1.sh.len
  exact ⟨h1.sh.tr h2.sh, fun k a hk ha => (h2.i k a hk (by omega)).trans (h1.i k a hk ha), fun k a hk ha => (h2.l k a hk (by omega)).trans (h1.l k a hk ha), fun k a hk ha => (h2.r k a hk (by omega)).trans (h1.r k a hk ha), fun a ha => (h2.a a (by omega)).trans (h1.a a ha), fun a ha => (h2.b a (by omega)).trans (h1.b a ha), fun a ha hb => (h2.q a (by omega) (fun c => hb (bk_up h1.sh ha c))).trans (h1.q a ha hb)⟩
theorem nw1_ne {α : Type} {f : Nat → Nat → α} {n : Nat} {d : α} {k a : Nat} (h : a ≠ n) : nw1 f n d k a = f k a := if_neg h
theorem nw1_eq {α : Type} {f : Nat → Nat → α} {n : Nat} {d : α} {k : Nat} : nw1 f n d k n = d := if_pos rfl
theorem nw2_ne {α : Type} {f : Nat → Nat → α} {n : Nat} {d : α} {a : Nat} (h : a ≠ n) : nw2 f n d a = f a := by
  funext i
  exact if_neg h
theorem nw2_eq {α : Type} {f : Nat → Nat → α} {n : Nat} {d : α} {i : Nat} : nw2 f n d n i = d := if_pos rfl
theorem BF.new {S : hS} (kd n : Nat) : BF S (hNew S kd n) := ⟨⟨[(kd, n)], rfl⟩, fun k a _ ha => nw1_ne (by omega), fun k a _ ha => nw1_ne (by omega), fun k a _ ha => nw1_ne (by omega), fun a ha => nw2_ne (by omega), fun a ha => nw2_ne (by omega), fun a ha _ => nw2_ne (by omega)⟩
theorem up2_na {α : Type} {f : Nat → Nat → α} {k a : Nat} {v : α} {k' a' : Nat} (h : a' ≠ a) : up2 f k a v k' a' = f k' a' := up2_ne (fun q => h q.2)
section BFP
variable {S S' : hS}
theorem BF.pI (h : BF S S') {k a : Nat} {v : Int32} (hk : k ∈ bI ∨ S.1.length ≤ a) : BF S (hpI S' k a v) := ⟨h.sh, fun k' a' h1 h2 => (up2_ne (fun q => by rcases hk with c | c; exact h1 (by rw [q.1]; exact c); omega)).trans (h.i k' a' h1 h2), h.l, h.r, h.a, h.b, h.q⟩
theorem BF.pL (h : BF S S') {k a : Nat} {v : Int64} (hk : k ∈ bL ∨ S.1.length ≤ a) : BF S (hpL S' k a v) := ⟨h.sh, h.i, fun k' a' h1 h2 => (up2_ne (fun q => by rcases hk with c | c; exact h1 (by rw [q.1]; exact c); omega)).trans (h.l k' a' h1 h2), h.r, h.a, h.b, h.q⟩
theorem BF.pR (h : BF S S') {k a : Nat} {v : Option Nat} (hk : k ∈ bR ∨ S.1.length ≤ a) : BF S (hpR S' k a v) := ⟨h.sh, h.i, h.l, fun k' a' h1 h2 => (up2_ne (fun q => by rcases hk with c | c; exact h1 (by rw [q.1]; exact c); omega)).trans (h.r k' a' h1 h2), h.a, h.b, h.q⟩
theorem BF.pA (h : BF S S') {a j : Nat} {v : Int32} (ha : S.1.length ≤ a) : BF S (hpA S' a j v) := ⟨h.sh, h.i, h.l, h.r, fun a' h2 => (up2_row (by omega)).trans (h.a a' h2), h.b, h.q⟩
theorem BF.pB (h : BF S S') {a j : Nat} {v : Int64} (ha : S.1.length ≤ a) : BF S (hpB S' a j v) := ⟨h.sh, h.i, h.l, h.r, h.a, fun a' h2 => (up2_row (by omega)).trans (h.b a' h2), h.q⟩
theorem BF.pQ (h : BF S S') {a j : Nat} {v : Option Nat} (hk : bk S.1 a ∨ S.1.length ≤ a) : BF S (hpQ S' a j v) := ⟨h.sh, h.i, h.l, h.r, h.a, h.b, fun a' h2 h3 => (up2_row (fun c => by rcases hk with d | d; exact h3 (by rw [c]; exact d); omega)).trans (h.q a' h2 h3)⟩
end BFP
theorem BF.ofX {ki kl kr kq : List Nat} {S S' : hS} (w : hX ki kl kr [] [] kq S S') (h1 : ∀ k ∈ ki, k ∈ bI) (h2 : ∀ k ∈ kl, k ∈ bL) (h3 : ∀ k ∈ kr, k ∈ bR) (h4 : ∀ k ∈ kq, bk S.1 k) : BF S S' := ⟨by rw [w.sh]; exact hE.rf, fun k a hk _ => w.ei k (fun c => hk (h1 k c)) a, fun k a hk _ => w.el k (fun c => hk (h2 k c)) a, fun k a hk _ => w.er k (fun c => hk (h3 k c)) a, fun a _ => w.a a (by simp), fun a _ => w.b a (by simp), fun a _ hb => w.q a (fun c => hb (h4 a c))⟩
/-! The queue stands, whatever the books do. -/
section QST
variable {S S' : hS}
theorem nbk {sh : List (Nat × Nat)} (hf : hE hs_fix sh) {x k n : Nat} (h : sh[x]? = some (k, n)) (h1 : k ≠ 24) (h2 : k ≠ 25) (h3 : k ≠ 28) (h4 : ∀ b, x = b + 1 → sh[b]? ≠ some (9, 0)) : ¬ bk sh x := by
  rintro (c | c | c | ⟨b, c, d⟩)
  · rw [c, hf.get (a := 11) (p := (24, 256)) rfl] at h; cases h; exact h1 rfl
  · rw [c, hf.get (a := 12) (p := (25, 64)) rfl] at h; cases h; exact h2 rfl
  · exact h3 (c.un h)
  · exact h4 b c d
theorem HE.f {mem mem' : List (List Nat)} {x : Nat} {i : Ins} (h : HE S mem x i) (w : BF S S') (hm : mem'.getD i.who [] = mem.getD i.who []) : HE S' mem' x i := by
  have hx := len_get h.k
  exact ⟨w.sh.get h.k, by rw [hm]; exact (w.i _ _ (by decide) hx).trans h.cod, (w.l _ _ (by decide) hx).trans h.nm⟩
theorem HI.f {z z' : Z} {ad ad' : Nat → Option Nat} {x : Nat} {i : Ins} (h : HI S z ad x i) (w : BF S S') (hf : hE hs_fix S.1) (hm : z'.mem.getD i.who [] = z.mem.getD i.who []) (hp : i.pls z'.fc = i.pls z.fc) (hn : ∀ P, i.net z'.fc P = i.net z.fc P) (had : ∀ P y, ad P = some y → ad' P = some y) : HI S' z' ad' x i := by
  have hx := len_get h.e.k
  obtain ⟨ks, hN⟩ := h.net
  obtain ⟨ws, hW⟩ := h.awt
  have x1 := len_get hW.kw
  have x2 := len_get hN.kc
  have x3 := len_get hN.kd
  refine ⟨h.e.f w hm, (w.i _ _ (by decide) hx).trans h.who, (w.i _ _ (by decide) hx).trans h.pr, (w.i _ _ (by decide) hx).trans h.st, ⟨ks, ?_⟩, ⟨ws, ?_⟩⟩
  · refine ⟨(w.r _ _ (by decide) hx).trans hN.rc, w.sh.get hN.kc, (w.r _ _ (by decide) hx).trans hN.rd, w.sh.get hN.kd, (w.i _ _ (by decide) hx).trans hN.sz, hN.le, hN.nd, fun j P hj => ?_, fun P => by rw [hp]; exact hN.mem P⟩
    obtain ⟨y, e1, e2, e3⟩ := hN.row j P hj
    refine ⟨y, ?_, had P y e2, ?_⟩
    · rw [w.q _ x2 (nbk hf hN.kc (by decide) (by decide) (by decide) (fun b hb c => ?_))]; exact e1
      have : b = x + 1 := by omega
      rw [this, hW.kw] at c
      cases c
    · rw [w.b _ x3, hn]; exact e3
  · exact ⟨(w.r _ _ (by decide) hx).trans hW.rw, w.sh.get hW.kw, (w.i _ _ (by decide) hx).trans hW.sz, hW.le, hW.nd, fun j v hj => by rw [w.a _ x1]; exact hW.row j v hj, hW.mem⟩
theorem fix_lt (hf : hE hs_fix S.1) {a : Nat} (h : a < 60) : a < S.1.length := by
  have := hf.len
  have h2 : hs_fix.length = 60 := rfl
  omega
theorem HQ.f {z z' : Z} {g g' : hG} {q u : List Ins} (h : HQ S z g q u) (w : BF S S') (hf : hE hs_fix S.1) (hm : ∀ i ∈ z.ins, z'.mem.getD i.who [] = z.mem.getD i.who []) (hp : ∀ i ∈ z.ins, i.pls z'.fc = i.pls z.fc ∧ ∀ P, i.net z'.fc P = i.net z.fc P) (had : ∀ P y, g.ad P = some y → g'.ad P = some y) (hg : g'.2.1 = g.2.1) (hi : z'.ins = z.ins) : HQ S' z' g' q u := by
  have hxi : ∀ i, g'.xi i = g.xi i := fun i => by unfold hG.xi; rw [hg]
  have n17 : ¬ bk S.1 17 := nbk hf (hf.get (a := 17) (p := (27, 250)) rfl) (by decide) (by decide) (by decide) (fun b hb c => by
    have : b = 16 := by omega
    rw [this, hf.get (a := 16) (p := (11, 0)) rfl] at c; cases c)
  have n18 : ¬ bk S.1 18 := nbk hf (hf.get (a := 18) (p := (27, 250)) rfl) (by decide) (by decide) (by decide) (fun b hb c => by
    have : b = 17 := by omega
    rw [this, hf.get (a := 17) (p := (27, 250)) rfl] at c; cases c)
  refine ⟨(w.i _ _ (by decide) (fix_lt hf (by decide))).trans h.qs, fun j i hj => ?_, (w.i _ _ (by decide) (fix_lt hf (by decide))).trans h.us, fun j i hj => ?_, fun i hi' => ?_, fun i h1 j h2 e => ?_, ⟨h.isq.1, fun i => by rw [hi]; exact h.isq.2 i⟩, by rw [hi]; exact h.isu⟩
  · rw [w.q 17 (fix_lt hf (by decide)) n17, hxi]; exact h.q j i hj
  · rw [w.q 18 (fix_lt hf (by decide)) n18, hxi]; exact h.u j i hj
  · rw [hi] at hi'
    rw [hxi]
    exact (h.ins i hi').f w hf (hm i hi') (hp i hi').1 (hp i hi').2 had
  · rw [hi] at h1 h2
    rw [hxi, hxi] at e
    exact h.inj i h1 j h2 e
theorem HO.f {z z' : Z} {g g' : hG} {es : List (Ins × Bool)} (h : HO S z g es) (w : BF S S') (hf : hE hs_fix S.1) (hm : ∀ e ∈ es, z'.mem.getD e.1.who [] = z.mem.getD e.1.who []) (hg : g'.2.1 = g.2.1) (hi : z'.ins = z.ins) : HO S' z' g' es := by
  have hxi : ∀ i, g'.xi i = g.xi i := fun i => by unfold hG.xi; rw [hg]
  have n19 : ¬ bk S.1 19 := nbk hf (hf.get (a := 19) (p := (27, 250)) rfl) (by decide) (by decide) (by decide) (fun b hb c => by
    have : b = 18 := by omega
    rw [this, hf.get (a := 18) (p := (27, 250)) rfl] at c; cases c)
  refine ⟨(w.i _ _ (by decide) (fix_lt hf (by decide))).trans h.sz, fun j e he => ?_, fun e he i hi' => ?_, by rw [hi]; exact h.len⟩
  · obtain ⟨a1, a2, a3⟩ := h.row j e he
    rw [hxi]
    exact ⟨by rw [w.q 19 (fix_lt hf (by decide)) n19]; exact a1, (w.i _ _ (by decide) (len_get a3.k)).trans a2, a3.f w (hm e (List.mem_of_getElem? he))⟩
  · rw [hi] at hi'
    rw [hxi, hxi]
    exact h.dj e he i hi'
theorem HK.f {g g' : hG} {L : Nat} (h : HK S g.ad L) (w : BF S S') (hf : hE hs_fix S.1) (hT : ∀ P x, g.ad P = some x → x < S.1.length) (hn : ∀ P x, g'.ad P = some x → g.ad P = some x ∨ S'.2.1 1008 x = 0) : HK S' g'.ad L := by
  refine ⟨(w.i _ _ (by decide) (fix_lt hf (by decide))).trans h.look, fun P x hx => ?_⟩
  rcases hn P x hx with c | c
  · obtain ⟨v, a, b⟩ := h.mk P x c
    exact ⟨v, a, (w.i _ _ (by decide) (hT P x c)).trans b⟩
  · exact ⟨0, Nat.zero_le _, c⟩
end QST
/-! Looking things up. -/
section HLK
variable {S : hS} {z : Z} {g : hG}
theorem HB.p (h : HB S z g) {p : Nat} (hp : p < z.mem.length) : ∃ c, z.mem[p]? = some c ∧ HM S z g p c := by
  obtain ⟨c, hc⟩ := get_lt (ks := z.mem) hp
  exact ⟨c, hc, h.par p c hc⟩
theorem HB.a (h : HB S z g) {a : Nat} (ha : a < z.ast.length) : ∃ x, z.ast[a]? = some x ∧ HA S g a x := by
  obtain ⟨x, hx⟩ := get_lt (ks := z.ast) ha
  exact ⟨x, hx, h.ast a x hx⟩
theorem lev_a {z : Z} {P : Nat} (h : P < 16384) : z.lev P = z.pos P := if_pos h
theorem h_level (h : HB S z g) (hX : okX z) {p a : Nat} (hp : p < z.mem.length) (ha : a < z.ast.length) : h_Bo_levelOf (nI p) (nI a) S = some (lI (z.pos (64 * p + a))) := by
  have hm := hX.mem
  have hs := hX.ast
  obtain ⟨c, hc, hM⟩ := h.p hp
  unfold h_Bo_levelOf
  rw [ix_N (by omega) (by omega), Option.bind_some, hM.at, Option.bind_some, hM.acr, Option.bind_some, hln_of hM.ack, ix_N (by omega) (by omega), Option.bind_some, hM.acc a (by omega)]
  cases had : g.ad (64 * p + a) with
  | none => rw [if_pos rfl, (h.tab.acc0 _ (by omega) had).1]; rfl
  | some y => rw [if_neg (by simp), Option.bind_some, (h.tab.pos _ y had).lev, lev_a (by omega)]
theorem h_pledged (h : HB S z g) (hX : okX z) (hfc : ∀ a, z.fc = some a → z.mny a = true) (hmp : ∀ P, P < 16384 → z.mny (P % 64) = true → z.pl P = 0) {p a : Nat} (hp : p < z.mem.length) (ha : a < z.ast.length) : h_Bo_pledgedOf (nI p) (nI a) S = some (lI (z.pl (64 * p + a))) := by
  have hm := hX.mem
  have hs := hX.ast
  obtain ⟨c, hc, hM⟩ := h.p hp
  obtain ⟨x, hx, hA⟩ := h.a ha
  have e64 : (64 * p + a) % 64 = a := by omega
  unfold h_Bo_pledgedOf
  rw [ix_N (by omega) (by omega), Option.bind_some, hM.at, Option.bind_some, hM.acr, Option.bind_some, hln_of hM.ack, ix_N (by omega) (by omega), Option.bind_some, hM.acc a (by omega)]
  cases had : g.ad (64 * p + a) with
  | none => rw [if_pos rfl, (h.tab.acc0 _ (by omega) had).2.1]; rfl
  | some y =>
    rw [if_neg (by simp), Option.bind_some, Option.bind_some, hA.at, Option.bind_some, hA.sec, (h.tab.pos _ y had).flr (Or.inl (by omega))]
    cases hy : x.mny with
    | true =>
      rw [if_neg (by decide), hmp _ (by omega) (by rw [e64, mny_some hx]; exact hy)]; rfl
    | false =>
      rw [if_pos (by decide)]
      have : z.flr (64 * p + a) = z.pl (64 * p + a) := by
        unfold Z.flr
        rw [if_pos (by omega), e64, if_neg (fun c => by
          have := hfc a c.symm
          rw [mny_some hx, hy] at this; cases this), if_neg (by rw [mny_some hx, hy]; decide)]
      rw [this]
/-- the first of that code -/
def fndA (c : List Nat) : Nat → List (List Nat) → Option Nat
  | _, [] => none
  | k, x :: l => if x = c then some k else fndA c (k + 1) l
theorem fndA_some {c : List Nat} : ∀ {l : List (List Nat)} {k j : Nat}, fndA c k l = some j → k ≤ j ∧ l[j - k]? = some c := by
  intro l
  induction l with
  | nil => intro k j h; cases h
  | cons x l ih =>
    intro k j h
    unfold fndA at h
    by_cases hx : x = c
    · rw [if_pos hx] at h; cases h
      refine ⟨Nat.le_refl _, ?_⟩
      rw [Nat.sub_self, hx]; rfl
    · rw [if_neg hx] at h
      obtain ⟨h1, h2⟩ := ih h
      refine ⟨by omega, ?_⟩
      rw [show j - k = (j - (k + 1)) + 1 by omega]
      exact h2
theorem fndA_none {c : List Nat} : ∀ {l : List (List Nat)} {k : Nat}, fndA c k l = none ↔ c ∉ l := by
  intro l
  induction l with
  | nil => intro k; simp [fndA]
  | cons x l ih =>
    intro k
    unfold fndA
    by_cases hx : x = c
    · rw [if_pos hx]; simp [hx]
    · rw [if_neg hx, ih, List.mem_cons]
      exact ⟨fun h q => q.elim (fun w => hx w.symm) h, fun h q => h (Or.inr q)⟩
def Z.fm (z : Z) (c : List Nat) : Option Nat := fndA c 0 z.mem
def Z.fa (z : Z) (c : List Nat) : Option Nat := fndA c 0 (z.ast.map Ast.cd)
theorem fm_lt {c : List Nat} {p : Nat} (h : z.fm c = some p) : p < z.mem.length ∧ z.mem[p]? = some c := by
  have := (fndA_some h).2
  rw [Nat.sub_zero] at this
  exact ⟨get_lt' this, this⟩
theorem fa_lt {c : List Nat} {a : Nat} (h : z.fa c = some a) : a < z.ast.length := by
  have := (fndA_some h).2
  rw [Nat.sub_zero] at this
  have := get_lt' this
  rwa [List.length_map] at this
theorem h_findP_loop (h : HB S z g) (hm : z.mem.length ≤ 256) (hcod : ∀ c ∈ z.mem, c.length = 4 ∧ is36 c) {c : List Nat} (h4 : c.length = 4) (h36 : is36 c) : ∀ (d fu k : Nat), z.mem.length - k = d → d < fu → k ≤ z.mem.length → hl_Bo_findParticipant_2 fu (nI (b36 c)) (nI k) S = some (oI (fndA c k (z.mem.drop k))) := by
  intro d
  induction d with
  | zero =>
    intro fu k hd hf hk
    obtain ⟨fu, rfl⟩ : ∃ f, fu = f + 1 := ⟨fu - 1, by omega⟩
    unfold hl_Bo_findParticipant_2
    rw [h.mem, if_pos (nI_le0 (by omega) (by omega) (by omega)), List.drop_of_length_le (by omega)]; rfl
  | succ d ih =>
    intro fu k hd hf hk
    obtain ⟨fu, rfl⟩ : ∃ f, fu = f + 1 := ⟨fu - 1, by omega⟩
    obtain ⟨e, he, hM⟩ := h.p (p := k) (by omega)
    obtain ⟨e4, e36⟩ := hcod e (List.mem_of_getElem? he)
    have b1 := b36_lt 4 e e4 e36
    have b2 := b36_lt 4 c h4 h36
    rw [show (36 : Nat) ^ 4 = 1679616 by decide] at b1 b2
    unfold hl_Bo_findParticipant_2
    rw [h.mem, if_neg (nI_ngt (by omega) (by omega) (by omega)), ix_N (by omega) (by omega), Option.bind_some, hM.at, Option.bind_some, hM.cod, drop_cons he]
    unfold fndA
    by_cases hec : e = c
    · rw [if_neg (fun q => q (by rw [hec])), if_pos hec]; rfl
    · rw [if_pos (fun q => hec (b36_inj 4 e c e4 h4 e36 h36 (nI_inj (by omega) (by omega) q))), if_neg hec, nI_add1]
      exact ih fu (k + 1) (by omega) (by omega) (by omega)
theorem h_findP (h : HB S z g) (hm : z.mem.length ≤ 256) (hcod : ∀ c ∈ z.mem, c.length = 4 ∧ is36 c) {c : List Nat} (h4 : c.length = 4) (h36 : is36 c) : h_Bo_findParticipant (nI (b36 c)) S = some (oI (z.fm c)) := by
  unfold h_Bo_findParticipant
  exact h_findP_loop h hm hcod h4 h36 _ 100000 0 rfl (by omega) (by omega)
theorem h_findA_loop (h : HB S z g) (hm : z.ast.length ≤ 64) (hcod : ∀ x ∈ z.ast, x.cd.length = 3 ∧ is36 x.cd) {c : List Nat} (h4 : c.length = 3) (h36 : is36 c) : ∀ (d fu k : Nat), z.ast.length - k = d → d < fu → k ≤ z.ast.length → hl_Bo_findAsset_2 fu (nI (b36 c)) (nI k) S = some (oI (fndA c k ((z.ast.map Ast.cd).drop k))) := by
  intro d
  induction d with
  | zero =>
    intro fu k hd hf hk
    obtain ⟨fu, rfl⟩ : ∃ f, fu = f + 1 := ⟨fu - 1, by omega⟩
    unfold hl_Bo_findAsset_2
    rw [h.asn, if_pos (nI_le0 (by omega) (by omega) (by omega)), List.drop_of_length_le (by rw [List.length_map]; omega)]; rfl
  | succ d ih =>
    intro fu k hd hf hk
    obtain ⟨fu, rfl⟩ : ∃ f, fu = f + 1 := ⟨fu - 1, by omega⟩
    obtain ⟨e, he, hM⟩ := h.a (a := k) (by omega)
    obtain ⟨e4, e36⟩ := hcod e (List.mem_of_getElem? he)
    have b1 := b36_lt 3 e.cd e4 e36
    have b2 := b36_lt 3 c h4 h36
    rw [show (36 : Nat) ^ 3 = 46656 by decide] at b1 b2
    unfold hl_Bo_findAsset_2
    rw [h.asn, if_neg (nI_ngt (by omega) (by omega) (by omega)), ix_N (by omega) (by omega), Option.bind_some, hM.at, Option.bind_some, hM.cod, drop_cons (ks := z.ast.map Ast.cd) (P := e.cd) (by rw [List.getElem?_map, he]; rfl)]
    unfold fndA
    by_cases hec : e.cd = c
    · rw [if_neg (fun q => q (by rw [hec])), if_pos hec]; rfl
    · rw [if_pos (fun q => hec (b36_inj 3 e.cd c e4 h4 e36 h36 (nI_inj (by omega) (by omega) q))), if_neg hec, nI_add1]
      exact ih fu (k + 1) (by omega) (by omega) (by omega)
theorem h_findA (h : HB S z g) (hm : z.ast.length ≤ 64) (hcod : ∀ x ∈ z.ast, x.cd.length = 3 ∧ is36 x.cd) {c : List Nat} (h4 : c.length = 3) (h36 : is36 c) : h_Bo_findAsset (nI (b36 c)) S = some (oI (z.fa c)) := by
  unfold h_Bo_findAsset
  exact h_findA_loop h hm hcod h4 h36 _ 100000 0 rfl (by omega) (by omega)
end HLK
/-! One place more. -/
def GR (S S' : hS) (z : Z) (g g' : hG) : Prop := (BF S S') ∧ (∀ k a, k ∉ [1301, 1302] → a < S.1.length → S'.2.1 k a = S.2.1 k a) ∧ (∀ k a, a < S.1.length → S'.2.2.1 k a = S.2.2.1 k a) ∧ (∀ k a, k ≠ 1300 → a < S.1.length → S'.2.2.2.1 k a = S.2.2.2.1 k a) ∧ (S'.2.2.2.2.2.2 11 = S.2.2.2.2.2.2 11 ∧ S'.2.2.2.2.2.2 12 = S.2.2.2.2.2.2 12) ∧ (∀ p, p < z.mem.length → ∀ a, a < 64 → S'.2.2.2.2.2.2 (g.pb p + 1) a = g'.ad (64 * p + a)) ∧ (∀ p, p < z.mem.length → HL S' g'.ad p (g.pb p + 2)) ∧ (∀ p q e, p < z.mem.length → q < z.mem.length → S'.2.2.2.1 1300 (g.pb p + 2) = some e → S'.2.2.2.1 1300 (g.pb q + 2) = some e → e ≠ am_M + 1 → p = q) ∧ (∀ P y, g.ad P = some y → g'.ad P = some y) ∧ (∀ P y, g'.ad P = some y → g.ad P = some y ∨ (g.ad P = none ∧ inP z P ∧ HP S' z P y ∧ S.1.length ≤ y ∧ S'.2.1 1008 y = 0)) ∧ (∀ P Q y, g'.ad P = some y → g'.ad Q = some y → g.ad P = none → g.ad Q = none → P = Q) ∧ (g'.2 = g.2)
theorem GR.bf {S S' : hS} {z : Z} {g g' : hG} (h : GR S S' z g g') : BF S S' := h.1
theorem GR.i {S S' : hS} {z : Z} {g g' : hG} (h : GR S S' z g g') : ∀ k a, k ∉ [1301, 1302] → a < S.1.length → S'.2.1 k a = S.2.1 k a := h.2.1
theorem GR.l {S S' : hS} {z : Z} {g g' : hG} (h : GR S S' z g g') : ∀ k a, a < S.1.length → S'.2.2.1 k a = S.2.2.1 k a := h.2.2.1
theorem GR.r {S S' : hS} {z : Z} {g g' : hG} (h : GR S S' z g g') : ∀ k a, k ≠ 1300 → a < S.1.length → S'.2.2.2.1 k a = S.2.2.2.1 k a := h.2.2.2.1
theorem GR.q1 {S S' : hS} {z : Z} {g g' : hG} (h : GR S S' z g g') : S'.2.2.2.2.2.2 11 = S.2.2.2.2.2.2 11 ∧ S'.2.2.2.2.2.2 12 = S.2.2.2.2.2.2 12 := h.2.2.2.2.1
theorem GR.acc {S S' : hS} {z : Z} {g g' : hG} (h : GR S S' z g g') : ∀ p, p < z.mem.length → ∀ a, a < 64 → S'.2.2.2.2.2.2 (g.pb p + 1) a = g'.ad (64 * p + a) := h.2.2.2.2.2.1
theorem GR.rom {S S' : hS} {z : Z} {g g' : hG} (h : GR S S' z g g') : ∀ p, p < z.mem.length → HL S' g'.ad p (g.pb p + 2) := h.2.2.2.2.2.2.1
theorem GR.rin {S S' : hS} {z : Z} {g g' : hG} (h : GR S S' z g g') : ∀ p q e, p < z.mem.length → q < z.mem.length → S'.2.2.2.1 1300 (g.pb p + 2) = some e → S'.2.2.2.1 1300 (g.pb q + 2) = some e → e ≠ am_M + 1 → p = q := h.2.2.2.2.2.2.2.1
theorem GR.ext {S S' : hS} {z : Z} {g g' : hG} (h : GR S S' z g g') : ∀ P y, g.ad P = some y → g'.ad P = some y := h.2.2.2.2.2.2.2.2.1
theorem GR.new {S S' : hS} {z : Z} {g g' : hG} (h : GR S S' z g g') : ∀ P y, g'.ad P = some y → g.ad P = some y ∨ (g.ad P = none ∧ inP z P ∧ HP S' z P y ∧ S.1.length ≤ y ∧ S'.2.1 1008 y = 0) := h.2.2.2.2.2.2.2.2.2.1
theorem GR.ninj {S S' : hS} {z : Z} {g g' : hG} (h : GR S S' z g g') : ∀ P Q y, g'.ad P = some y → g'.ad Q = some y → g.ad P = none → g.ad Q = none → P = Q := h.2.2.2.2.2.2.2.2.2.2.1
theorem GR.gg {S S' : hS} {z : Z} {g g' : hG} (h : GR S S' z g g') : g'.2 = g.2 := h.2.2.2.2.2.2.2.2.2.2.2
theorem HP.len {S : hS} {z : Z} {P x : Nat} (h : HP S z P x) : x < S.1.length := len_get h.k
theorem HP.g {S S' : hS} {z : Z} {P x : Nat} (h : HP S z P x) (w1 : hE S.1 S'.1) (w2 : ∀ k, k ∉ [1301, 1302] → S'.2.1 k x = S.2.1 k x) (w3 : ∀ k, S'.2.2.1 k x = S.2.2.1 k x) : HP S' z P x :=
  ⟨w1.get h.k, (w3 _).trans h.lev, (w2 _ (by decide)).trans h.fld, fun c => (w3 _).trans (h.flr c), fun c => ⟨(w3 _).trans (h.day c).1, (w3 _).trans (h.day c).2.1, (w3 _).trans (h.day c).2.2.1, (w2 _ (by decide)).trans (h.day c).2.2.2⟩, fun c => (w2 _ (by decide)).trans (h.tow c)⟩
theorem GR.hb {S S' : hS} {z : Z} {g g' : hG} (w : GR S S' z g g') (h : HB S z g) : HB S' z g' := by
  have epb : g'.pb = g.pb := by unfold hG.pb; rw [w.gg]
  have eab : g'.ab = g.ab := by unfold hG.ab; rw [w.gg]
  have hsh := w.bf.sh
  have fl : ∀ {a}, a < 60 → a < S.1.length := fun {a} ha => fix_lt h.fix ha
  refine ⟨h.fix.tr hsh, ⟨fun P x hx => ?_, fun P x hx => ?_, fun P Q x hP hQ => ?_, fun P hP hn => ?_, fun k hk hn => ?_⟩, (w.i _ _ (by decide) (fl (by decide))).trans h.mem, fun p c hp => ?_, ?_, ?_, (w.i _ _ (by decide) (fl (by decide))).trans h.asn, fun a x hx => ?_, ?_, (w.i _ _ (by decide) (fl (by decide))).trans h.fir, (w.i _ _ (by decide) (fl (by decide))).trans h.lims, (w.l _ _ (fl (by decide))).trans h.all⟩
  · rcases w.new P x hx with c | ⟨_, _, c, _⟩
    · have hp := h.tab.pos P x c
      exact hp.g hsh (fun k hk => w.i k x hk hp.len) (fun k => w.l k x hp.len)
    · exact c
  · rcases w.new P x hx with c | ⟨_, c, _⟩
    · exact h.tab.inr P x c
    · exact c
  · rcases w.new P x hP with c | ⟨n1, _, _, c, _⟩ <;> rcases w.new Q x hQ with d | ⟨n2, _, _, d, _⟩
    · exact h.tab.inj P Q x c d
    · have := (h.tab.pos P x c).len; omega
    · have := (h.tab.pos Q x d).len; omega
    · exact w.ninj P Q x hP hQ n1 n2
  · refine h.tab.acc0 P hP ?_
    cases hg : g.ad P with
    | none => rfl
    | some y => rw [w.ext P y hg] at hn; cases hn
  · refine h.tab.rom0 k hk ?_
    cases hg : g.ad (16384 + k) with
    | none => rfl
    | some y => rw [w.ext _ y hg] at hn; cases hn
  · have hM := h.par p c hp
    have x0 := len_get hM.k
    have hpl := get_lt' hp
    refine ⟨?_, ?_, ?_, ?_, ?_, ?_, ?_, ?_, ?_, ?_, ?_⟩ <;> rw [epb]
    · rw [w.q1.1]; exact hM.at
    · exact hsh.get hM.k
    · exact (w.i _ _ (by decide) x0).trans hM.cod
    · exact (w.i _ _ (by decide) x0).trans hM.bnk
    · exact (w.l _ _ x0).trans hM.crd
    · exact (w.r _ _ (by decide) x0).trans hM.acr
    · exact hsh.get hM.ack
    · exact w.acc p hpl
    · exact (w.r _ _ (by decide) x0).trans hM.rlr
    · exact hsh.get hM.rlk
    · exact w.rom p hpl
  · rw [epb]; exact h.pin
  · rw [epb]; exact w.rin
  · have hA := h.ast a x hx
    have x0 := len_get hA.k
    refine ⟨?_, ?_, ?_, ?_, ?_, ?_⟩ <;> rw [eab]
    · rw [w.q1.2]; exact hA.at
    · exact hsh.get hA.k
    · exact (w.i _ _ (by decide) x0).trans hA.cod
    · exact (w.i _ _ (by decide) x0).trans hA.sec
    · exact (w.l _ _ x0).trans hA.prc
    · exact (w.i _ _ (by decide) x0).trans hA.cut
  · rw [eab]; exact h.ain
/-- the whole house stands -/
theorem GR.hz {S S' : hS} {z : Z} {g g' : hG} {q u : List Ins} {L : Nat} {es : List (Ins × Bool)} (w : GR S S' z g g') (h : HZ S z g q u L es) : HZ S' z g' q u L es := by
  have hg : g'.2.1 = g.2.1 := by rw [w.gg]
  refine ⟨w.hb h.B, h.Q.f w.bf h.B.fix (fun _ _ => rfl) (fun _ _ => ⟨rfl, fun _ => rfl⟩) w.ext hg rfl, h.K.f w.bf h.B.fix (fun P x hx => (h.B.tab.pos P x hx).len) (fun P x hx => ?_), h.O.f w.bf h.B.fix (fun _ _ => rfl) hg rfl⟩
  rcases w.new P x hx with c | ⟨_, _, _, _, c⟩
  · exact Or.inl c
  · exact Or.inr c
theorem GR.rf {S : hS} {z : Z} {g : hG} (h : HB S z g) : GR S S z g g := ⟨BF.rf, fun _ _ _ _ => rfl, fun _ _ _ => rfl, fun _ _ _ _ => rfl, ⟨rfl, rfl⟩, fun p hp => by
  obtain ⟨c, _, hM⟩ := h.p hp
  exact hM.acc, fun p hp => by
  obtain ⟨c, _, hM⟩ := h.p hp
  exact hM.rom, h.rin, fun _ _ q => q, fun _ _ q => Or.inl q, fun P Q y a b c _ => (by rw [a] at c; cases c), rfl⟩
def hG.set (g : hG) (P y : Nat) : hG := (fun Q => if Q = P then some y else g.ad Q, g.2)
theorem set_ad (g : hG) (P y Q : Nat) : (g.set P y).ad Q = if Q = P then some y else g.ad Q := rfl
theorem HL.f {S S' : hS} {ad ad' : Nat → Option Nat} {p d : Nat} (h : HL S ad p d) (hsh : hE S.1 S'.1) (h1 : S'.2.2.2.1 1300 d = S.2.2.2.1 1300 d) (h2 : S'.2.1 1301 d = S.2.1 1301 d) (h3 : ∀ e, S.2.2.2.1 1300 d = some e → hK S.1 e 28 → S'.2.2.2.2.2.2 e = S.2.2.2.2.2.2 e) (h4 : ∀ t, t < 256 → ad' (16384 + (256 * p + t)) = ad (16384 + (256 * p + t))) : HL S' ad' p d := by
  obtain ⟨e, ts, a1, a2, a3, a4, a5, a6, a7, a8⟩ := h
  have e0 : hlq S'.1 e = hlq S.1 e := by
    unfold hlq
    by_cases he : e = am_M + 1
    · rw [if_pos he, if_pos he]
    · rw [if_neg he, if_neg he]
      exact hsh.ln (a2.resolve_left he).1
  refine ⟨e, ts, h1.trans a1, a2.imp id (fun q => ⟨q.1.up hsh, by rw [e0]; exact q.2⟩), by rw [e0]; exact a3, h2.trans a4, by rw [e0]; exact a5, a6, fun j t hj => ?_, fun t ht hn => by rw [h4 t ht]; exact a8 t ht hn⟩
  obtain ⟨b1, x, b2, b3⟩ := a7 j t hj
  refine ⟨b1, x, ?_, by rw [h4 t b1]; exact b3⟩
  rcases a2 with rfl | hk
  · exfalso
    have := get_lt' hj
    unfold hlq at a5
    rw [if_pos rfl] at a5
    omega
  · rw [h3 e a1 hk.1]; exact b2
theorem fld_a {z : Z} {P : Nat} (h : P < 16384) : z.fld P = decide (64 ≤ P) := if_pos h
set_option maxHeartbeats 1000000 in
/-- the account of p in a, old or new -/
theorem h_account {S : hS} {z : Z} {g : hG} (h : HB S z g) (hX : okX z) {p a : Nat} (hp : p < z.mem.length) (ha : a < z.ast.length) (hlen : S.1.length < am_M) : ∃ y S' g', h_Bo_account (nI p) (nI a) S = some (y, S') ∧ GR S S' z g g' ∧ g'.ad (64 * p + a) = some y ∧ S'.1.length ≤ S.1.length + 1 := by
  have hm := hX.mem
  have hs := hX.ast
  obtain ⟨c, hc, hM⟩ := h.p hp
  have hb0 := len_get hM.k
  have hb1 := len_get hM.ack
  have hb2 := len_get hM.rlk
  have hfix := h.fix
  have h60 : 60 ≤ S.1.length := by have := hfix.len; have h2 : hs_fix.length = 60 := rfl; omega
  cases had : g.ad (64 * p + a) with
  | some y =>
    refine ⟨y, S, g, ?_, GR.rf h, had, by omega⟩
    unfold h_Bo_account
    rw [ix_N (by omega) (by omega), Option.bind_some, hM.at, Option.bind_some, hM.acr, Option.bind_some, hln_of hM.ack, ix_N (by omega) (by omega), Option.bind_some, hM.acc a (by omega), had, if_neg (by simp), Option.bind_some]
    rfl
  | none =>
    obtain ⟨z1, z2, z3, z4, z5, z6⟩ := h.tab.acc0 _ (by omega) had
    have bkc : bk S.1 (g.pb p + 1) := Or.inr (Or.inr (Or.inr ⟨g.pb p, rfl, hM.k⟩))
    -- its cells
    obtain ⟨fl, hfl⟩ : ∃ fl : Int32, fl = b2i (z.fld (64 * p + a)) := ⟨_, rfl⟩
    obtain ⟨fr, hfr⟩ : ∃ fr : Int64, fr = lI (z.flr (64 * p + a)) := ⟨_, rfl⟩
    generalize hS' : hpQ (hpL (hpI (hpI (hNew S 10 0) 1000 S.1.length (-1)) 1002 S.1.length fl) 1003 S.1.length fr) (g.pb p + 1) a (some S.1.length) = S'
    have eI : ∀ k b, b < S.1.length → S'.2.1 k b = S.2.1 k b := fun k b hb => by
      rw [← hS']
      show up2 (up2 (nw1 S.2.1 S.1.length 0) 1000 S.1.length (-1)) 1002 S.1.length fl k b = _
      rw [up2_na (by omega), up2_na (by omega), nw1_ne (by omega)]
    have eL : ∀ k b, b < S.1.length → S'.2.2.1 k b = S.2.2.1 k b := fun k b hb => by
      rw [← hS']
      show up2 (nw1 S.2.2.1 S.1.length 0) 1003 S.1.length fr k b = _
      rw [up2_na (by omega), nw1_ne (by omega)]
    have eR : ∀ k b, b < S.1.length → S'.2.2.2.1 k b = S.2.2.2.1 k b := fun k b hb => by
      rw [← hS']
      show nw1 S.2.2.2.1 S.1.length none k b = _
      rw [nw1_ne (by omega)]
    have eQ : ∀ b, b < S.1.length → b ≠ g.pb p + 1 → S'.2.2.2.2.2.2 b = S.2.2.2.2.2.2 b := fun b hb hne => by
      rw [← hS']
      show up2 (nw2 S.2.2.2.2.2.2 S.1.length none) (g.pb p + 1) a _ b = _
      rw [up2_row hne, nw2_ne (by omega)]
    have eQ2 : ∀ j, S'.2.2.2.2.2.2 (g.pb p + 1) j = if j = a then some S.1.length else S.2.2.2.2.2.2 (g.pb p + 1) j := fun j => by
      rw [← hS']
      show up2 (nw2 S.2.2.2.2.2.2 S.1.length none) (g.pb p + 1) a _ (g.pb p + 1) j = _
      rw [up2_at, nw2_ne (by omega)]
    have bf : BF S S' := by
      rw [← hS']
      exact ((((BF.new 10 0).pI (Or.inr (Nat.le_refl _))).pI (Or.inr (Nat.le_refl _))).pL (Or.inr (Nat.le_refl _))).pQ (Or.inl bkc)
    have n1 : g.pb p + 1 ≠ 11 := kd_ne hM.ack (fix_at hfix (b := 11) (p := (24, 256)) rfl) (by decide)
    have n2 : g.pb p + 1 ≠ 12 := kd_ne hM.ack (fix_at hfix (b := 12) (p := (25, 64)) rfl) (by decide)
    refine ⟨S.1.length, S', g.set (64 * p + a) S.1.length, ?_, ⟨bf, fun k b _ hb => eI k b hb, eL, fun k b _ hb => eR k b hb, ⟨eQ 11 (by omega) n1.symm, eQ 12 (by omega) n2.symm⟩, fun p' hp' a' ha' => ?_, fun p' hp' => ?_, fun p' q' e hp' hq' e1 e2 hne => ?_, fun P y hP => ?_, fun P y hP => ?_, fun P Q y h1 h2 h3 h4 => ?_, rfl⟩, ?_, ?_⟩
    · unfold h_Bo_account
      have eP : (64 * p + a) / 64 = p := by omega
      have eA : (64 * p + a) % 64 = a := by omega
      rw [ix_N (by omega) (by omega), Option.bind_some, hM.at, Option.bind_some, hM.acr, Option.bind_some, hln_of hM.ack, ix_N (by omega) (by omega), Option.bind_some, hM.acc a (by omega), had, if_pos rfl]
      have e1 : hs_al S = some S.1.length := if_pos hlen
      rw [e1, Option.bind_some]
      unfold h_Po_init
      rw [Option.bind_some]
      have e2 : (hpI (hNew S 10 0) 1000 S.1.length (-1)).2.1 901 (g.pb p) = b2i (decide (p = 0)) := by
        show up2 (nw1 S.2.1 S.1.length 0) 1000 S.1.length (-1) 901 (g.pb p) = _
        rw [up2_na (by omega), nw1_ne (by omega), hM.bnk]
      have e3 : (hpI (hNew S 10 0) 1000 S.1.length (-1)).2.1 404 10 = oI z.fc := by
        show up2 (nw1 S.2.1 S.1.length 0) 1000 S.1.length (-1) 404 10 = _
        rw [up2_na (by omega), nw1_ne (by omega), h.fir]
      have e4 : (hpI (hNew S 10 0) 1000 S.1.length (-1)).2.2.1 904 (g.pb p) = lI (z.crd p) := by
        show nw1 S.2.2.1 S.1.length 0 904 (g.pb p) = _
        rw [nw1_ne (by omega), hM.crd]
      have e5 : (hpI (hNew S 10 0) 1000 S.1.length (-1)).2.2.2.1 902 (g.pb p) = some (g.pb p + 1) := by
        show nw1 S.2.2.2.1 S.1.length none 902 (g.pb p) = _
        rw [nw1_ne (by omega), hM.acr]
      have e6 : hln (hpI (hNew S 10 0) 1000 S.1.length (-1)).1 (g.pb p + 1) = 64 := hln_of (k := 26) (by
        show (S.1 ++ [(10, 0)])[g.pb p + 1]? = _
        rw [List.getElem?_append_left hb1]; exact hM.ack)
      have e7 : (if ¬ b2i (decide (p = 0)) = 0 then some (0 : Int32) else some 1) = some fl := by
        rw [hfl, fld_a (by omega)]
        by_cases h0 : p = 0
        · rw [decide_eq_true h0, if_pos (by decide), decide_eq_false (by omega)]; rfl
        · rw [decide_eq_false h0, if_neg (by decide), decide_eq_true (by omega)]; rfl
      have e8 : (if ¬ nI a = oI z.fc then some (0 : Int64) else some (-(lI (z.crd p)))) = some fr := by
        have hq := oI_eq (z := z) (a := a) (fun b hb => by have := hX.fc b hb; omega) (by omega)
        have ef : z.flr (64 * p + a) = if some a = z.fc then -(z.crd p : Int) else if z.mny a = true then 0 else z.pl (64 * p + a) := by
          unfold Z.flr
          rw [if_pos (show 64 * p + a < 16384 by omega), eA, eP]
        rw [hfr, ef]
        by_cases hfc : some a = z.fc
        · rw [if_neg (fun w => w (hq.mpr hfc)), if_pos hfc, lI_neg]
        · rw [if_pos (fun w => hfc (hq.mp w)), if_neg hfc, z2]
          split <;> rfl
      have e9 : fl = 0 ∨ fl = 1 := by rw [hfl]; cases z.fld (64 * p + a) <;> decide
      rw [e2, e7, Option.bind_some, if_pos e9, e3, e4, e8, Option.bind_some, e5, Option.bind_some, e6, ix_N (by omega) (by omega), Option.bind_some, Option.bind_some, Option.bind_some, hS']
    · rw [set_ad]
      obtain ⟨c', _, hM'⟩ := h.p hp'
      by_cases hpp : p' = p
      · subst hpp
        rw [eQ2]
        by_cases haa : a' = a
        · rw [if_pos haa, if_pos (by omega)]
        · rw [if_neg haa, if_neg (by omega)]; exact hM'.acc a' ha'
      · have hne : g.pb p' + 1 ≠ g.pb p + 1 := fun c => hpp (h.pin p' p hp' hp (by omega))
        rw [eQ _ (len_get hM'.ack) hne, if_neg (by omega)]; exact hM'.acc a' ha'
    · obtain ⟨c', _, hM'⟩ := h.p hp'
      have x0 := len_get hM'.rlk
      refine hM'.rom.f bf.sh (eR _ _ x0) (eI _ _ x0) (fun e _ he => eQ e he.lt (fun c => ?_)) (fun t ht => by rw [set_ad, if_neg (by omega)])
      rw [c] at he
      exact absurd (he.un hM.ack) (by decide)
    · obtain ⟨c1, _, hM1⟩ := h.p hp'
      obtain ⟨c2, _, hM2⟩ := h.p hq'
      rw [eR _ _ (len_get hM1.rlk)] at e1
      rw [eR _ _ (len_get hM2.rlk)] at e2
      exact h.rin p' q' e hp' hq' e1 e2 hne
    · rw [set_ad]
      by_cases hPe : P = 64 * p + a
      · rw [hPe, had] at hP; cases hP
      · rw [if_neg hPe]; exact hP
    · rw [set_ad] at hP
      by_cases hPe : P = 64 * p + a
      · rw [if_pos hPe] at hP; cases hP
        right
        rw [hPe]
        refine ⟨had, Or.inl ⟨by omega, by omega, by omega⟩, ⟨?_, ?_, ?_, fun _ => ?_, fun _ => ⟨?_, ?_, ?_, ?_⟩, fun c => by omega⟩, Nat.le_refl _, ?_⟩
        · rw [← hS']
          show (S.1 ++ [(10, 0)])[S.1.length]? = _
          rw [List.getElem?_append_right (Nat.le_refl _), Nat.sub_self]; rfl
        · rw [← hS', lev_a (by omega), z1]
          show up2 (nw1 S.2.2.1 S.1.length 0) 1003 S.1.length fr 1001 S.1.length = _
          rw [up2_ne (by omega), nw1_eq]; rfl
        · rw [← hS', ← hfl]
          show up2 (up2 (nw1 S.2.1 S.1.length 0) 1000 S.1.length (-1)) 1002 S.1.length fl 1002 S.1.length = _
          rw [up2_eq]
        · rw [← hS', ← hfr]
          show up2 (nw1 S.2.2.1 S.1.length 0) 1003 S.1.length fr 1003 S.1.length = _
          rw [up2_eq]
        · rw [← hS', z3]
          show up2 (nw1 S.2.2.1 S.1.length 0) 1003 S.1.length fr 1004 S.1.length = _
          rw [up2_ne (by omega), nw1_eq]; rfl
        · rw [← hS', z4]
          show up2 (nw1 S.2.2.1 S.1.length 0) 1003 S.1.length fr 1005 S.1.length = _
          rw [up2_ne (by omega), nw1_eq]; rfl
        · rw [← hS', z5]
          show up2 (nw1 S.2.2.1 S.1.length 0) 1003 S.1.length fr 1006 S.1.length = _
          rw [up2_ne (by omega), nw1_eq]; rfl
        · rw [← hS', z6]
          show up2 (up2 (nw1 S.2.1 S.1.length 0) 1000 S.1.length (-1)) 1002 S.1.length fl 1007 S.1.length = _
          rw [up2_ne (by omega), up2_ne (by omega), nw1_eq]; rfl
        · rw [← hS']
          show up2 (up2 (nw1 S.2.1 S.1.length 0) 1000 S.1.length (-1)) 1002 S.1.length fl 1008 S.1.length = _
          rw [up2_ne (by omega), up2_ne (by omega), nw1_eq]
      · rw [if_neg hPe] at hP
        exact Or.inl hP
    · rw [set_ad] at h1 h2
      by_cases g1 : P = 64 * p + a <;> by_cases g2 : Q = 64 * p + a
      · omega
      · rw [if_neg g2, h4] at h2; cases h2
      · rw [if_neg g1, h3] at h1; cases h1
      · rw [if_neg g1, h3] at h1; cases h1
    · rw [set_ad, if_pos rfl]
    · rw [← hS']
      show (S.1 ++ [(10, 0)]).length ≤ _
      rw [List.length_append, List.length_singleton]; omega
