/-! The house that both sides are pictures of. Places are numbers: 64 p + a for what p has of a, 16384 + 256 p + q for p's room towards q. -/
def Leg : Type := Nat × Nat × Nat × Nat
def mkLeg (f_ : Nat) (t_ : Nat) (a_ : Nat) (v_ : Nat) : Leg := (f_, t_, a_, v_)
def Leg.f (x : Leg) : Nat := x.1
def Leg.t (x : Leg) : Nat := x.2.1
def Leg.a (x : Leg) : Nat := x.2.2.1
def Leg.v (x : Leg) : Nat := x.2.2.2
def Ins : Type := Nat × List Nat × Nat × Nat × List Leg × List Nat
def mkIns (who_ : Nat) (nm_ : List Nat) (pr_ : Nat) (tn_ : Nat) (legs_ : List Leg) (ag_ : List Nat) : Ins := (who_, nm_, pr_, tn_, legs_, ag_)
def Ins.who (x : Ins) : Nat := x.1
def Ins.nm (x : Ins) : List Nat := x.2.1
def Ins.pr (x : Ins) : Nat := x.2.2.1
def Ins.tn (x : Ins) : Nat := x.2.2.2.1
def Ins.legs (x : Ins) : List Leg := x.2.2.2.2.1
def Ins.ag (x : Ins) : List Nat := x.2.2.2.2.2
def Ast : Type := List Nat × Bool × Nat × Nat
def mkAst (cd_ : List Nat) (mny_ : Bool) (prc_ : Nat) (cut_ : Nat) : Ast := (cd_, mny_, prc_, cut_)
def Ast.cd (x : Ast) : List Nat := x.1
def Ast.mny (x : Ast) : Bool := x.2.1
def Ast.prc (x : Ast) : Nat := x.2.2.1
def Ast.cut (x : Ast) : Nat := x.2.2.2
def Txt : Type := Nat × List Nat × List Int32
def mkTxt (who_ : Nat) (nm_ : List Nat) (bs_ : List Int32) : Txt := (who_, nm_, bs_)
def Txt.who (x : Txt) : Nat := x.1
def Txt.nm (x : Txt) : List Nat := x.2.1
def Txt.bs (x : Txt) : List Int32 := x.2.2
/-- what an instruction's settling leaves alone -/
def Zs : Type := (List (List Nat)) × (List Ast) × (Option Nat) × (Nat → Int) × (Nat → Int) × (Nat → Int) × (Int) × (List Txt) × (Nat) × (Nat)
def Zm : Type := (Nat → Int) × (Nat → Int) × (Nat → Int) × (Nat → Nat) × (Nat → Int)
def Z : Type := Zs × Zm × List Ins
def mkZ (mem_ : List (List Nat)) (ast_ : List Ast) (fc_ : Option Nat) (pos_ : Nat → Int) (pl_ : Nat → Int) (beg_ : Nat → Int) (wnt_ : Nat → Int) (cam_ : Nat → Int) (mv_ : Nat → Nat) (paid_ : Nat → Int) (lim_ : Nat → Int) (lims_ : Int) (txs_ : List Txt) (ins_ : List Ins) (turns_ : Nat) (tick_ : Nat) : Z := ((mem_, ast_, fc_, pl_, beg_, lim_, lims_, txs_, turns_, tick_), (pos_, wnt_, cam_, mv_, paid_), ins_)
def Z.mem (x : Z) : List (List Nat) := x.1.1
def Z.ast (x : Z) : List Ast := x.1.2.1
def Z.fc (x : Z) : Option Nat := x.1.2.2.1
def Z.pl (x : Z) : Nat → Int := x.1.2.2.2.1
def Z.beg (x : Z) : Nat → Int := x.1.2.2.2.2.1
def Z.lim (x : Z) : Nat → Int := x.1.2.2.2.2.2.1
def Z.lims (x : Z) : Int := x.1.2.2.2.2.2.2.1
def Z.txs (x : Z) : List Txt := x.1.2.2.2.2.2.2.2.1
def Z.turns (x : Z) : Nat := x.1.2.2.2.2.2.2.2.2.1
def Z.tick (x : Z) : Nat := x.1.2.2.2.2.2.2.2.2.2
def Z.pos (x : Z) : Nat → Int := x.2.1.1
def Z.wnt (x : Z) : Nat → Int := x.2.1.2.1
def Z.cam (x : Z) : Nat → Int := x.2.1.2.2.1
def Z.mv (x : Z) : Nat → Nat := x.2.1.2.2.2.1
def Z.paid (x : Z) : Nat → Int := x.2.1.2.2.2.2
def Z.ins (x : Z) : List Ins := x.2.2
def Z.wIns (z : Z) (L : List Ins) : Z := (z.1, z.2.1, L)
def Ins.wt (i : Ins) : Bool := i.legs.all fun l => i.ag.contains l.f
def legN (fc : Option Nat) (P : Nat) (l : Leg) : Int :=
  if P < 16384 then (if l.a = P % 64 then (if l.t = P / 64 then (l.v : Int) else if l.f = P / 64 then -(l.v : Int) else 0) else 0)
  else if some l.a = fc then (if l.f = (P - 16384) / 256 ∧ l.t = (P - 16384) % 256 then -(l.v : Int) else if l.f = (P - 16384) % 256 ∧ l.t = (P - 16384) / 256 then (l.v : Int) else 0) else 0
def netL (fc : Option Nat) (P : Nat) (ls : List Leg) : Int := ls.foldl (fun v l => v + legN fc P l) 0
def Ins.net (i : Ins) (fc : Option Nat) (P : Nat) : Int := netL fc P i.legs
def mostN : Nat := 4000000000000000000
/-- what so many are worth, cut above the most -/
def wth (n prc cut : Nat) : Nat := min (n * (prc * (100 - cut)) / 100) (mostN + 1)
def Z.wor (z : Z) (p a : Nat) : Nat := match z.ast[a]? with
  | some x => if x.mny then 0 else wth (z.pl (64 * p + a)).toNat x.prc x.cut
  | none => 0
def sumN (f : Nat → Nat) : Nat → Nat
  | 0 => 0
  | n + 1 => sumN f n + f n
def Z.crd (z : Z) (p : Nat) : Nat := sumN (z.wor p) z.ast.length
def Z.all (z : Z) : Nat := sumN z.crd z.mem.length
def Z.mny (z : Z) (a : Nat) : Bool := match z.ast[a]? with
  | some x => x.mny
  | none => false
def Z.lev (z : Z) (P : Nat) : Int := if P < 16384 then z.pos P else - z.paid (P - 16384)
def Z.flr (z : Z) (P : Nat) : Int := if P < 16384 then (if some (P % 64) = z.fc then -(z.crd (P / 64) : Int) else if z.mny (P % 64) then 0 else z.pl P) else - z.lim (P - 16384)
def Z.fld (z : Z) (P : Nat) : Bool := if P < 16384 then decide (64 ≤ P) else decide (0 ≤ z.lim (P - 16384))
/-- the places of an instruction -/
def legP (fc : Option Nat) (l : Leg) : List Nat := [64 * l.f + l.a, 64 * l.t + l.a] ++ if some l.a = fc then [16384 + (256 * l.f + l.t), 16384 + (256 * l.t + l.f)] else []
def Ins.pls (i : Ins) (fc : Option Nat) : List Nat := i.legs.flatMap (legP fc)
def Z.tks (z : Z) (i : Ins) (P : Nat) : Bool := decide (i.net z.fc P < 0) && z.fld P
/-- nothing marked is taken from, and no floor broken -/
def Z.can (z : Z) (mk : Nat → Bool) (i : Ins) : Bool := (i.pls z.fc).all fun P => !(z.tks i P) || (!(mk P) && decide (z.flr P ≤ z.lev P + i.net z.fc P))
def Z.mrk (z : Z) (mk : Nat → Bool) (i : Ins) : Nat → Bool := fun P => mk P || z.tks i P
def Z.fst (z : Z) : (Nat → Bool) → List Ins → Option Ins
  | _, [] => none
  | m, i :: q => if z.can m i then some i else z.fst (z.mrk m i) q
abbrev ahd (i j : Ins) : Prop := i.pr < j.pr ∨ (i.pr = j.pr ∧ i.tn < j.tn)
/-- q is the queue -/
def Z.isq (z : Z) (q : List Ins) : Prop := q.Pairwise ahd ∧ ∀ i, i ∈ q ↔ i ∈ z.ins ∧ i.wt = true
/-- the amounts after an instruction's settling -/
def Z.mov (z : Z) (i : Ins) : Z := (z.1, (fun P => z.pos P + i.net z.fc P, fun P => if i.net z.fc P < 0 then z.wnt P - i.net z.fc P else z.wnt P, fun P => if 0 < i.net z.fc P then z.cam P + i.net z.fc P else z.cam P, fun P => if i.net z.fc P = 0 then z.mv P else z.mv P + 1, fun k => z.paid k - i.net z.fc (16384 + k)), z.2.2)
def sameK (i j : Ins) : Bool := decide (i.who = j.who ∧ i.nm = j.nm)
def Z.del (z : Z) (i : Ins) : Z := z.wIns (z.ins.filter fun j => !(sameK i j))
/-- settles i -/
def Z.stl (z : Z) (i : Ins) : Z := (z.mov i).del i
/-! The reference's picture of it. -/
def oI : Option Nat → Int32
  | none => -1
  | some a => nI a
def b2i (b : Bool) : Int32 := if b then 1 else 0
def MB (s : mS) (z : Z) : Prop := (s.1 10 = nI z.mem.length) ∧ (∀ k c, z.mem[k]? = some c → s.2.2.2 26 k = lI (b256 c)) ∧ (s.1 15 = nI z.ast.length) ∧ (∀ k x, z.ast[k]? = some x → s.2.2.2 27 k = lI (b256 x.cd) ∧ s.2.2.1 28 k = b2i x.mny ∧ s.2.2.2 29 k = lI x.prc ∧ s.2.2.1 30 k = nI x.cut) ∧ (s.1 16 = oI z.fc) ∧ (∀ P, P < 16384 → s.2.2.2 31 P = lI (z.pos P)) ∧ (∀ P, P < 16384 → s.2.2.2 32 P = lI (z.pl P)) ∧ (∀ P, P < 16384 → s.2.2.2 33 P = lI (z.beg P)) ∧ (∀ P, P < 16384 → s.2.2.2 34 P = lI (z.wnt P)) ∧ (∀ P, P < 16384 → s.2.2.2 35 P = lI (z.cam P)) ∧ (∀ P, P < 16384 → s.2.2.1 36 P = nI (z.mv P)) ∧ (∀ k, k < 65536 → s.2.2.2 37 k = lI (z.paid k)) ∧ (∀ k, k < 65536 → s.2.2.2 38 k = lI (z.lim k)) ∧ (s.1 25 = Int32.ofInt z.lims)
theorem MB.mem {s : mS} {z : Z} (h : MB s z) : s.1 10 = nI z.mem.length := h.1
theorem MB.cod {s : mS} {z : Z} (h : MB s z) : ∀ k c, z.mem[k]? = some c → s.2.2.2 26 k = lI (b256 c) := h.2.1
theorem MB.asn {s : mS} {z : Z} (h : MB s z) : s.1 15 = nI z.ast.length := h.2.2.1
theorem MB.asc {s : mS} {z : Z} (h : MB s z) : ∀ k x, z.ast[k]? = some x → s.2.2.2 27 k = lI (b256 x.cd) ∧ s.2.2.1 28 k = b2i x.mny ∧ s.2.2.2 29 k = lI x.prc ∧ s.2.2.1 30 k = nI x.cut := h.2.2.2.1
theorem MB.fir {s : mS} {z : Z} (h : MB s z) : s.1 16 = oI z.fc := h.2.2.2.2.1
theorem MB.pos {s : mS} {z : Z} (h : MB s z) : ∀ P, P < 16384 → s.2.2.2 31 P = lI (z.pos P) := h.2.2.2.2.2.1
theorem MB.pl {s : mS} {z : Z} (h : MB s z) : ∀ P, P < 16384 → s.2.2.2 32 P = lI (z.pl P) := h.2.2.2.2.2.2.1
theorem MB.beg {s : mS} {z : Z} (h : MB s z) : ∀ P, P < 16384 → s.2.2.2 33 P = lI (z.beg P) := h.2.2.2.2.2.2.2.1
theorem MB.wnt {s : mS} {z : Z} (h : MB s z) : ∀ P, P < 16384 → s.2.2.2 34 P = lI (z.wnt P) := h.2.2.2.2.2.2.2.2.1
theorem MB.cam {s : mS} {z : Z} (h : MB s z) : ∀ P, P < 16384 → s.2.2.2 35 P = lI (z.cam P) := h.2.2.2.2.2.2.2.2.2.1
theorem MB.mv {s : mS} {z : Z} (h : MB s z) : ∀ P, P < 16384 → s.2.2.1 36 P = nI (z.mv P) := h.2.2.2.2.2.2.2.2.2.2.1
theorem MB.paid {s : mS} {z : Z} (h : MB s z) : ∀ k, k < 65536 → s.2.2.2 37 k = lI (z.paid k) := h.2.2.2.2.2.2.2.2.2.2.2.1
theorem MB.lim {s : mS} {z : Z} (h : MB s z) : ∀ k, k < 65536 → s.2.2.2 38 k = lI (z.lim k) := h.2.2.2.2.2.2.2.2.2.2.2.2.1
theorem MB.lims {s : mS} {z : Z} (h : MB s z) : s.1 25 = Int32.ofInt z.lims := h.2.2.2.2.2.2.2.2.2.2.2.2.2
def MI (s : mS) (k : Nat) (i : Ins) : Prop := (s.2.2.1 43 k = nI i.who) ∧ (s.2.2.1 44 k = nI i.pr) ∧ (s.2.2.1 45 k = nI i.legs.length) ∧ (s.2.2.2 46 k = lI (b256 i.nm)) ∧ (s.2.2.2 47 k = lI i.tn) ∧ (s.2.2.1 48 k = b2i i.wt) ∧ (∀ (j : Nat) (l : Leg), i.legs[j]? = some l → s.2.2.1 50 (4 * k + j) = nI l.f ∧ s.2.2.1 51 (4 * k + j) = nI l.t ∧ s.2.2.1 52 (4 * k + j) = nI l.a ∧ s.2.2.2 53 (4 * k + j) = lI l.v ∧ s.2.2.1 54 (4 * k + j) = b2i (i.ag.contains l.f))
theorem MI.who {s : mS} {k : Nat} {i : Ins} (h : MI s k i) : s.2.2.1 43 k = nI i.who := h.1
theorem MI.pr {s : mS} {k : Nat} {i : Ins} (h : MI s k i) : s.2.2.1 44 k = nI i.pr := h.2.1
theorem MI.len {s : mS} {k : Nat} {i : Ins} (h : MI s k i) : s.2.2.1 45 k = nI i.legs.length := h.2.2.1
theorem MI.nm {s : mS} {k : Nat} {i : Ins} (h : MI s k i) : s.2.2.2 46 k = lI (b256 i.nm) := h.2.2.2.1
theorem MI.tn {s : mS} {k : Nat} {i : Ins} (h : MI s k i) : s.2.2.2 47 k = lI i.tn := h.2.2.2.2.1
theorem MI.wt {s : mS} {k : Nat} {i : Ins} (h : MI s k i) : s.2.2.1 48 k = b2i i.wt := h.2.2.2.2.2.1
theorem MI.lg {s : mS} {k : Nat} {i : Ins} (h : MI s k i) : ∀ (j : Nat) (l : Leg), i.legs[j]? = some l → s.2.2.1 50 (4 * k + j) = nI l.f ∧ s.2.2.1 51 (4 * k + j) = nI l.t ∧ s.2.2.1 52 (4 * k + j) = nI l.a ∧ s.2.2.2 53 (4 * k + j) = lI l.v ∧ s.2.2.1 54 (4 * k + j) = b2i (i.ag.contains l.f) := h.2.2.2.2.2.2
def MQu (s : mS) (z : Z) : Prop := (s.1 31 = nI z.ins.length) ∧ (∀ (k : Nat) (i : Ins), z.ins[k]? = some i → MI s k i) ∧ (s.2.1 45 = lI z.turns)
theorem MQu.many {s : mS} {z : Z} (h : MQu s z) : s.1 31 = nI z.ins.length := h.1
theorem MQu.ins {s : mS} {z : Z} (h : MQu s z) : ∀ (k : Nat) (i : Ins), z.ins[k]? = some i → MI s k i := h.2.1
theorem MQu.turns {s : mS} {z : Z} (h : MQu s z) : s.2.1 45 = lI z.turns := h.2.2
/-! Shape and bounds. -/
def okL (z : Z) (l : Leg) : Prop := (l.f < z.mem.length) ∧ (l.t < z.mem.length) ∧ (l.a < z.ast.length) ∧ (0 < l.f) ∧ (0 < l.t) ∧ (l.f ≠ l.t) ∧ (0 < l.v) ∧ (l.v < 1000000000000000)
theorem okL.f {z : Z} {l : Leg} (h : okL z l) : l.f < z.mem.length := h.1
theorem okL.t {z : Z} {l : Leg} (h : okL z l) : l.t < z.mem.length := h.2.1
theorem okL.a {z : Z} {l : Leg} (h : okL z l) : l.a < z.ast.length := h.2.2.1
theorem okL.f0 {z : Z} {l : Leg} (h : okL z l) : 0 < l.f := h.2.2.2.1
theorem okL.t0 {z : Z} {l : Leg} (h : okL z l) : 0 < l.t := h.2.2.2.2.1
theorem okL.ft {z : Z} {l : Leg} (h : okL z l) : l.f ≠ l.t := h.2.2.2.2.2.1
theorem okL.v0 {z : Z} {l : Leg} (h : okL z l) : 0 < l.v := h.2.2.2.2.2.2.1
theorem okL.v {z : Z} {l : Leg} (h : okL z l) : l.v < 1000000000000000 := h.2.2.2.2.2.2.2
def okI (z : Z) (i : Ins) : Prop := (i.who < z.mem.length) ∧ (i.nm.length = 8 ∧ is36 i.nm) ∧ (1 ≤ i.pr ∧ i.pr ≤ 9) ∧ (i.tn ≤ z.turns) ∧ (1 ≤ i.legs.length ∧ i.legs.length ≤ 4) ∧ (∀ l ∈ i.legs, okL z l)
theorem okI.who {z : Z} {i : Ins} (h : okI z i) : i.who < z.mem.length := h.1
theorem okI.nm {z : Z} {i : Ins} (h : okI z i) : i.nm.length = 8 ∧ is36 i.nm := h.2.1
theorem okI.pr {z : Z} {i : Ins} (h : okI z i) : 1 ≤ i.pr ∧ i.pr ≤ 9 := h.2.2.1
theorem okI.tn {z : Z} {i : Ins} (h : okI z i) : i.tn ≤ z.turns := h.2.2.2.1
theorem okI.len {z : Z} {i : Ins} (h : okI z i) : 1 ≤ i.legs.length ∧ i.legs.length ≤ 4 := h.2.2.2.2.1
theorem okI.lg {z : Z} {i : Ins} (h : okI z i) : ∀ l ∈ i.legs, okL z l := h.2.2.2.2.2
def big (n : Nat) : Int := 4000000000000000 * n
def Ins.tot (i : Ins) : Nat := (i.legs.map Leg.v).sum
def Z.tot (z : Z) : Nat := (z.ins.map Ins.tot).sum
def okZ (n : Nat) (z : Z) : Prop := (1 ≤ z.mem.length ∧ z.mem.length ≤ 256) ∧ (∀ c ∈ z.mem, c.length = 4 ∧ is36 c) ∧ (z.ast.length ≤ 64) ∧ (∀ x ∈ z.ast, x.cd.length = 3 ∧ is36 x.cd ∧ x.prc < 1000000000000000 ∧ x.cut < 100) ∧ (∀ a, z.fc = some a → a < z.ast.length ∧ z.mny a = true) ∧ ((z.tot : Int) ≤ big n) ∧ (∀ P, -(big n) ≤ z.pos P - z.tot ∧ z.pos P + z.tot ≤ big n) ∧ (∀ P, -(big n) ≤ z.beg P ∧ z.beg P ≤ big n) ∧ (∀ P, 0 ≤ z.wnt P ∧ z.wnt P + z.tot ≤ big n) ∧ (∀ P, 0 ≤ z.cam P ∧ z.cam P + z.tot ≤ big n) ∧ (∀ P, 0 ≤ z.pl P ∧ z.pl P ≤ big n) ∧ (∀ P, z.mv P + z.ins.length ≤ n) ∧ (∀ k, -(big n) ≤ z.paid k - z.tot ∧ z.paid k + z.tot ≤ big n) ∧ (∀ k, -1 ≤ z.lim k ∧ z.lim k < 1000000000000000) ∧ (-(n : Int) ≤ z.lims ∧ z.lims ≤ 2000) ∧ (z.ins.length ≤ 250) ∧ (∀ i ∈ z.ins, okI z i) ∧ (z.ins.Pairwise fun i j => ¬ (i.who = j.who ∧ i.nm = j.nm)) ∧ (z.ins.Pairwise fun i j => i.wt = true → j.wt = true → i.tn ≠ j.tn) ∧ (z.turns ≤ n) ∧ (z.tick < 1000) ∧ (∀ P, P < 16384 → (z.mem.length ≤ P / 64 ∨ z.ast.length ≤ P % 64) → z.pos P = 0 ∧ z.pl P = 0 ∧ z.beg P = 0 ∧ z.wnt P = 0 ∧ z.cam P = 0 ∧ z.mv P = 0) ∧ (∀ k, k < 65536 → (z.mem.length ≤ k / 256 ∨ z.mem.length ≤ k % 256) → z.paid k = 0 ∧ z.lim k = -1) ∧ (∀ P, P < 64 → z.pl P = 0) ∧ (∀ P, P < 16384 → z.mny (P % 64) = true → z.pl P = 0) ∧ (z.all ≤ mostN)
theorem okZ.mem {n : Nat} {z : Z} (h : okZ n z) : 1 ≤ z.mem.length ∧ z.mem.length ≤ 256 := h.1
theorem okZ.cod {n : Nat} {z : Z} (h : okZ n z) : ∀ c ∈ z.mem, c.length = 4 ∧ is36 c := h.2.1
theorem okZ.ast {n : Nat} {z : Z} (h : okZ n z) : z.ast.length ≤ 64 := h.2.2.1
theorem okZ.acd {n : Nat} {z : Z} (h : okZ n z) : ∀ x ∈ z.ast, x.cd.length = 3 ∧ is36 x.cd ∧ x.prc < 1000000000000000 ∧ x.cut < 100 := h.2.2.2.1
theorem okZ.fc {n : Nat} {z : Z} (h : okZ n z) : ∀ a, z.fc = some a → a < z.ast.length ∧ z.mny a = true := h.2.2.2.2.1
theorem okZ.tot {n : Nat} {z : Z} (h : okZ n z) : (z.tot : Int) ≤ big n := h.2.2.2.2.2.1
theorem okZ.pos {n : Nat} {z : Z} (h : okZ n z) : ∀ P, -(big n) ≤ z.pos P - z.tot ∧ z.pos P + z.tot ≤ big n := h.2.2.2.2.2.2.1
theorem okZ.beg {n : Nat} {z : Z} (h : okZ n z) : ∀ P, -(big n) ≤ z.beg P ∧ z.beg P ≤ big n := h.2.2.2.2.2.2.2.1
theorem okZ.wnt {n : Nat} {z : Z} (h : okZ n z) : ∀ P, 0 ≤ z.wnt P ∧ z.wnt P + z.tot ≤ big n := h.2.2.2.2.2.2.2.2.1
theorem okZ.cam {n : Nat} {z : Z} (h : okZ n z) : ∀ P, 0 ≤ z.cam P ∧ z.cam P + z.tot ≤ big n := h.2.2.2.2.2.2.2.2.2.1
theorem okZ.pl {n : Nat} {z : Z} (h : okZ n z) : ∀ P, 0 ≤ z.pl P ∧ z.pl P ≤ big n := h.2.2.2.2.2.2.2.2.2.2.1
theorem okZ.mv {n : Nat} {z : Z} (h : okZ n z) : ∀ P, z.mv P + z.ins.length ≤ n := h.2.2.2.2.2.2.2.2.2.2.2.1
theorem okZ.paid {n : Nat} {z : Z} (h : okZ n z) : ∀ k, -(big n) ≤ z.paid k - z.tot ∧ z.paid k + z.tot ≤ big n := h.2.2.2.2.2.2.2.2.2.2.2.2.1
theorem okZ.lim {n : Nat} {z : Z} (h : okZ n z) : ∀ k, -1 ≤ z.lim k ∧ z.lim k < 1000000000000000 := h.2.2.2.2.2.2.2.2.2.2.2.2.2.1
theorem okZ.lims {n : Nat} {z : Z} (h : okZ n z) : -(n : Int) ≤ z.lims ∧ z.lims ≤ 2000 := h.2.2.2.2.2.2.2.2.2.2.2.2.2.2.1
theorem okZ.ins {n : Nat} {z : Z} (h : okZ n z) : z.ins.length ≤ 250 := h.2.2.2.2.2.2.2.2.2.2.2.2.2.2.2.1
theorem okZ.oki {n : Nat} {z : Z} (h : okZ n z) : ∀ i ∈ z.ins, okI z i := h.2.2.2.2.2.2.2.2.2.2.2.2.2.2.2.2.1
theorem okZ.unq {n : Nat} {z : Z} (h : okZ n z) : z.ins.Pairwise fun i j => ¬ (i.who = j.who ∧ i.nm = j.nm) := h.2.2.2.2.2.2.2.2.2.2.2.2.2.2.2.2.2.1
theorem okZ.tns {n : Nat} {z : Z} (h : okZ n z) : z.ins.Pairwise fun i j => i.wt = true → j.wt = true → i.tn ≠ j.tn := h.2.2.2.2.2.2.2.2.2.2.2.2.2.2.2.2.2.2.1
theorem okZ.turns {n : Nat} {z : Z} (h : okZ n z) : z.turns ≤ n := h.2.2.2.2.2.2.2.2.2.2.2.2.2.2.2.2.2.2.2.1
theorem okZ.tick {n : Nat} {z : Z} (h : okZ n z) : z.tick < 1000 := h.2.2.2.2.2.2.2.2.2.2.2.2.2.2.2.2.2.2.2.2.1
theorem okZ.out {n : Nat} {z : Z} (h : okZ n z) : ∀ P, P < 16384 → (z.mem.length ≤ P / 64 ∨ z.ast.length ≤ P % 64) → z.pos P = 0 ∧ z.pl P = 0 ∧ z.beg P = 0 ∧ z.wnt P = 0 ∧ z.cam P = 0 ∧ z.mv P = 0 := h.2.2.2.2.2.2.2.2.2.2.2.2.2.2.2.2.2.2.2.2.2.1
theorem okZ.outr {n : Nat} {z : Z} (h : okZ n z) : ∀ k, k < 65536 → (z.mem.length ≤ k / 256 ∨ z.mem.length ≤ k % 256) → z.paid k = 0 ∧ z.lim k = -1 := h.2.2.2.2.2.2.2.2.2.2.2.2.2.2.2.2.2.2.2.2.2.2.1
theorem okZ.bank {n : Nat} {z : Z} (h : okZ n z) : ∀ P, P < 64 → z.pl P = 0 := h.2.2.2.2.2.2.2.2.2.2.2.2.2.2.2.2.2.2.2.2.2.2.2.1
theorem okZ.mpl {n : Nat} {z : Z} (h : okZ n z) : ∀ P, P < 16384 → z.mny (P % 64) = true → z.pl P = 0 := h.2.2.2.2.2.2.2.2.2.2.2.2.2.2.2.2.2.2.2.2.2.2.2.2.1
theorem okZ.crd {n : Nat} {z : Z} (h : okZ n z) : z.all ≤ mostN := h.2.2.2.2.2.2.2.2.2.2.2.2.2.2.2.2.2.2.2.2.2.2.2.2.2
