/-! The class's side: frames, and its picture of the house. -/
theorem up2_row {α : Type} {f : Nat → Nat → α} {k a : Nat} {v : α} {k' : Nat} (h : k' ≠ k) : up2 f k a v k' = f k' := by
  funext a'
  exact up2_ne (fun q => h q.1)
theorem up2_at {α : Type} {f : Nat → Nat → α} {k a : Nat} {v : α} {a' : Nat} : up2 f k a v k a' = if a' = a then v else f k a' := by
  unfold up2
  rw [if_pos rfl]
def hX (ki kl kr ka kb kq : List Nat) (S S' : hS) : Prop := (S'.1 = S.1) ∧ (∀ k, k ∉ ki → S'.2.1 k = S.2.1 k) ∧ (∀ k, k ∉ kl → S'.2.2.1 k = S.2.2.1 k) ∧ (∀ k, k ∉ kr → S'.2.2.2.1 k = S.2.2.2.1 k) ∧ (∀ k, k ∉ ka → S'.2.2.2.2.1 k = S.2.2.2.2.1 k) ∧ (∀ k, k ∉ kb → S'.2.2.2.2.2.1 k = S.2.2.2.2.2.1 k) ∧ (∀ k, k ∉ kq → S'.2.2.2.2.2.2 k = S.2.2.2.2.2.2 k)
theorem hX.sh {ki kl kr ka kb kq : List Nat} {S S' : hS} (h : hX ki kl kr ka kb kq S S') : S'.1 = S.1 := h.1
theorem hX.i {ki kl kr ka kb kq : List Nat} {S S' : hS} (h : hX ki kl kr ka kb kq S S') : ∀ k, k ∉ ki → S'.2.1 k = S.2.1 k := h.2.1
theorem hX.l {ki kl kr ka kb kq : List Nat} {S S' : hS} (h : hX ki kl kr ka kb kq S S') : ∀ k, k ∉ kl → S'.2.2.1 k = S.2.2.1 k := h.2.2.1
theorem hX.r {ki kl kr ka kb kq : List Nat} {S S' : hS} (h : hX ki kl kr ka kb kq S S') : ∀ k, k ∉ kr → S'.2.2.2.1 k = S.2.2.2.1 k := h.2.2.2.1
theorem hX.a {ki kl kr ka kb kq : List Nat} {S S' : hS} (h : hX ki kl kr ka kb kq S S') : ∀ k, k ∉ ka → S'.2.2.2.2.1 k = S.2.2.2.2.1 k := h.2.2.2.2.1
theorem hX.b {ki kl kr ka kb kq : List Nat} {S S' : hS} (h : hX ki kl kr ka kb kq S S') : ∀ k, k ∉ kb → S'.2.2.2.2.2.1 k = S.2.2.2.2.2.1 k := h.2.2.2.2.2.1
theorem hX.q {ki kl kr ka kb kq : List Nat} {S S' : hS} (h : hX ki kl kr ka kb kq S S') : ∀ k, k ∉ kq → S'.2.2.2.2.2.2 k = S.2.2.2.2.2.2 k := h.2.2.2.2.2.2
section HX
variable {ki kl kr ka kb kq : List Nat} {S S' S'' : hS}
theorem hX.rf : hX ki kl kr ka kb kq S S := ⟨rfl, fun _ _ => rfl, fun _ _ => rfl, fun _ _ => rfl, fun _ _ => rfl, fun _ _ => rfl, fun _ _ => rfl⟩
theorem hX.tr (h1 : hX ki kl kr ka kb kq S S') (h2 : hX ki kl kr ka kb kq S' S'') : hX ki kl kr ka kb kq S S'' := ⟨h2.sh.trans h1.sh, fun k h => (h2.i k h).trans (h1.i k h), fun k h => (h2.l k h).trans (h1.l k h), fun k h => (h2.r k h).trans (h1.r k h), fun k h => (h2.a k h).trans (h1.a k h), fun k h => (h2.b k h).trans (h1.b k h), fun k h => (h2.q k h).trans (h1.q k h)⟩
theorem hX.mono {ki' kl' kr' ka' kb' kq' : List Nat} (h : hX ki kl kr ka kb kq S S') (h1 : ∀ k ∈ ki, k ∈ ki') (h2 : ∀ k ∈ kl, k ∈ kl') (h3 : ∀ k ∈ kr, k ∈ kr') (h4 : ∀ k ∈ ka, k ∈ ka') (h5 : ∀ k ∈ kb, k ∈ kb') (h6 : ∀ k ∈ kq, k ∈ kq') : hX ki' kl' kr' ka' kb' kq' S S' := ⟨h.sh, fun k q => h.i k (fun w => q (h1 k w)), fun k q => h.l k (fun w => q (h2 k w)), fun k q => h.r k (fun w => q (h3 k w)), fun k q => h.a k (fun w => q (h4 k w)), fun k q => h.b k (fun w => q (h5 k w)), fun k q => h.q k (fun w => q (h6 k w))⟩
theorem hX.pI (h : hX ki kl kr ka kb kq S S') {k a : Nat} {v : Int32} (hk : k ∈ ki) : hX ki kl kr ka kb kq S (hpI S' k a v) := ⟨h.sh, fun k' q => (up2_row (fun e => q (by rw [e]; exact hk))).trans (h.i k' q), h.l, h.r, h.a, h.b, h.q⟩
theorem hX.pL (h : hX ki kl kr ka kb kq S S') {k a : Nat} {v : Int64} (hk : k ∈ kl) : hX ki kl kr ka kb kq S (hpL S' k a v) := ⟨h.sh, h.i, fun k' q => (up2_row (fun e => q (by rw [e]; exact hk))).trans (h.l k' q), h.r, h.a, h.b, h.q⟩
theorem hX.pR (h : hX ki kl kr ka kb kq S S') {k a : Nat} {v : Option Nat} (hk : k ∈ kr) : hX ki kl kr ka kb kq S (hpR S' k a v) := ⟨h.sh, h.i, h.l, fun k' q => (up2_row (fun e => q (by rw [e]; exact hk))).trans (h.r k' q), h.a, h.b, h.q⟩
theorem hX.pA (h : hX ki kl kr ka kb kq S S') {k a : Nat} {v : Int32} (hk : k ∈ ka) : hX ki kl kr ka kb kq S (hpA S' k a v) := ⟨h.sh, h.i, h.l, h.r, fun k' q => (up2_row (fun e => q (by rw [e]; exact hk))).trans (h.a k' q), h.b, h.q⟩
theorem hX.pB (h : hX ki kl kr ka kb kq S S') {k a : Nat} {v : Int64} (hk : k ∈ kb) : hX ki kl kr ka kb kq S (hpB S' k a v) := ⟨h.sh, h.i, h.l, h.r, h.a, fun k' q => (up2_row (fun e => q (by rw [e]; exact hk))).trans (h.b k' q), h.q⟩
theorem hX.pQ (h : hX ki kl kr ka kb kq S S') {k a : Nat} {v : Option Nat} (hk : k ∈ kq) : hX ki kl kr ka kb kq S (hpQ S' k a v) := ⟨h.sh, h.i, h.l, h.r, h.a, h.b, fun k' q => (up2_row (fun e => q (by rw [e]; exact hk))).trans (h.q k' q)⟩
theorem hX.ei (h : hX ki kl kr ka kb kq S S') (k : Nat) (hk : k ∉ ki) (a : Nat) : S'.2.1 k a = S.2.1 k a := by rw [h.i k hk]
theorem hX.el (h : hX ki kl kr ka kb kq S S') (k : Nat) (hk : k ∉ kl) (a : Nat) : S'.2.2.1 k a = S.2.2.1 k a := by rw [h.l k hk]
theorem hX.er (h : hX ki kl kr ka kb kq S S') (k : Nat) (hk : k ∉ kr) (a : Nat) : S'.2.2.2.1 k a = S.2.2.2.1 k a := by rw [h.r k hk]
theorem hX.ea (h : hX ki kl kr ka kb kq S S') (k : Nat) (hk : k ∉ ka) (a : Nat) : S'.2.2.2.2.1 k a = S.2.2.2.2.1 k a := by rw [h.a k hk]
theorem hX.eb (h : hX ki kl kr ka kb kq S S') (k : Nat) (hk : k ∉ kb) (a : Nat) : S'.2.2.2.2.2.1 k a = S.2.2.2.2.2.1 k a := by rw [h.b k hk]
theorem hX.eq (h : hX ki kl kr ka kb kq S S') (k : Nat) (hk : k ∉ kq) (a : Nat) : S'.2.2.2.2.2.2 k a = S.2.2.2.2.2.2 k a := by rw [h.q k hk]
end HX
theorem hln_of {sh : List (Nat × Nat)} {b k n : Nat} (h : sh[b]? = some (k, n)) : hln sh b = n := by
  unfold hln
  rw [h]
/-- where things lie: positions by place, instructions by sender and name, participants, assets -/
def hG : Type := (Nat → Option Nat) × (Nat → List Nat → Nat) × (Nat → Nat) × (Nat → Nat)
def hG.ad (g : hG) : Nat → Option Nat := g.1
def hG.xi (g : hG) (i : Ins) : Nat := g.2.1 i.who i.nm
def hG.pb (g : hG) : Nat → Nat := g.2.2.1
def hG.ab (g : hG) : Nat → Nat := g.2.2.2
/-- the position at x is that of the place P -/
def HP (S : hS) (z : Z) (P x : Nat) : Prop := (S.1[x]? = some (10, 0)) ∧ (S.2.2.1 1001 x = lI (z.lev P)) ∧ (S.2.1 1002 x = b2i (z.fld P)) ∧ (P < 16384 ∨ z.fld P = true → S.2.2.1 1003 x = lI (z.flr P)) ∧ (P < 16384 → S.2.2.1 1004 x = lI (z.beg P) ∧ S.2.2.1 1005 x = lI (z.wnt P) ∧ S.2.2.1 1006 x = lI (z.cam P) ∧ S.2.1 1007 x = nI (z.mv P)) ∧ (16384 ≤ P → S.2.1 1000 x = nI ((P - 16384) % 256))
theorem HP.k {S : hS} {z : Z} {P x : Nat} (h : HP S z P x) : S.1[x]? = some (10, 0) := h.1
theorem HP.lev {S : hS} {z : Z} {P x : Nat} (h : HP S z P x) : S.2.2.1 1001 x = lI (z.lev P) := h.2.1
theorem HP.fld {S : hS} {z : Z} {P x : Nat} (h : HP S z P x) : S.2.1 1002 x = b2i (z.fld P) := h.2.2.1
theorem HP.flr {S : hS} {z : Z} {P x : Nat} (h : HP S z P x) : P < 16384 ∨ z.fld P = true → S.2.2.1 1003 x = lI (z.flr P) := h.2.2.2.1
theorem HP.day {S : hS} {z : Z} {P x : Nat} (h : HP S z P x) : P < 16384 → S.2.2.1 1004 x = lI (z.beg P) ∧ S.2.2.1 1005 x = lI (z.wnt P) ∧ S.2.2.1 1006 x = lI (z.cam P) ∧ S.2.1 1007 x = nI (z.mv P) := h.2.2.2.2.1
theorem HP.tow {S : hS} {z : Z} {P x : Nat} (h : HP S z P x) : 16384 ≤ P → S.2.1 1000 x = nI ((P - 16384) % 256) := h.2.2.2.2.2
def inP (z : Z) (P : Nat) : Prop := (P < 16384 ∧ P / 64 < z.mem.length ∧ P % 64 < z.ast.length) ∨ (16384 ≤ P ∧ P < 81920 ∧ (P - 16384) / 256 < z.mem.length ∧ (P - 16384) % 256 < z.mem.length)
def HT (S : hS) (z : Z) (ad : Nat → Option Nat) : Prop := (∀ P x, ad P = some x → HP S z P x) ∧ (∀ P x, ad P = some x → inP z P) ∧ (∀ P Q x, ad P = some x → ad Q = some x → P = Q) ∧ (∀ P, P < 16384 → ad P = none → z.pos P = 0 ∧ z.pl P = 0 ∧ z.beg P = 0 ∧ z.wnt P = 0 ∧ z.cam P = 0 ∧ z.mv P = 0) ∧ (∀ k, k < 65536 → ad (16384 + k) = none → z.paid k = 0 ∧ z.lim k = -1)
theorem HT.pos {S : hS} {z : Z} {ad : Nat → Option Nat} (h : HT S z ad) : ∀ P x, ad P = some x → HP S z P x := h.1
theorem HT.inr {S : hS} {z : Z} {ad : Nat → Option Nat} (h : HT S z ad) : ∀ P x, ad P = some x → inP z P := h.2.1
theorem HT.inj {S : hS} {z : Z} {ad : Nat → Option Nat} (h : HT S z ad) : ∀ P Q x, ad P = some x → ad Q = some x → P = Q := h.2.2.1
theorem HT.acc0 {S : hS} {z : Z} {ad : Nat → Option Nat} (h : HT S z ad) : ∀ P, P < 16384 → ad P = none → z.pos P = 0 ∧ z.pl P = 0 ∧ z.beg P = 0 ∧ z.wnt P = 0 ∧ z.cam P = 0 ∧ z.mv P = 0 := h.2.2.2.1
theorem HT.rom0 {S : hS} {z : Z} {ad : Nat → Option Nat} (h : HT S z ad) : ∀ k, k < 65536 → ad (16384 + k) = none → z.paid k = 0 ∧ z.lim k = -1 := h.2.2.2.2
/-- the rooms of p in the list at d -/
def HL (S : hS) (ad : Nat → Option Nat) (p d : Nat) : Prop := ∃ (e : Nat) (ts : List Nat), S.2.2.2.1 1300 d = some e ∧ (e = am_M + 1 ∨ (hK S.1 e 28 ∧ 0 < hlq S.1 e)) ∧ hlq S.1 e ≤ 400 ∧ S.2.1 1301 d = nI ts.length ∧ ts.length ≤ hlq S.1 e ∧ ts.Nodup ∧ (∀ (j t : Nat), ts[j]? = some t → t < 256 ∧ ∃ x, S.2.2.2.2.2.2 e j = some x ∧ ad (16384 + (256 * p + t)) = some x) ∧ (∀ t, t < 256 → t ∉ ts → ad (16384 + (256 * p + t)) = none)
def HM (S : hS) (z : Z) (g : hG) (p : Nat) (c : List Nat) : Prop := (S.2.2.2.2.2.2 11 p = some (g.pb p)) ∧ (S.1[g.pb p]? = some (9, 0)) ∧ (S.2.1 900 (g.pb p) = nI (b36 c)) ∧ (S.2.1 901 (g.pb p) = b2i (decide (p = 0))) ∧ (S.2.2.1 904 (g.pb p) = lI (z.crd p)) ∧ (S.2.2.2.1 902 (g.pb p) = some (g.pb p + 1)) ∧ (S.1[g.pb p + 1]? = some (26, 64)) ∧ (∀ a, a < 64 → S.2.2.2.2.2.2 (g.pb p + 1) a = g.ad (64 * p + a)) ∧ (S.2.2.2.1 903 (g.pb p) = some (g.pb p + 2)) ∧ (S.1[g.pb p + 2]? = some (13, 0)) ∧ (HL S g.ad p (g.pb p + 2))
theorem HM.at {S : hS} {z : Z} {g : hG} {p : Nat} {c : List Nat} (h : HM S z g p c) : S.2.2.2.2.2.2 11 p = some (g.pb p) := h.1
theorem HM.k {S : hS} {z : Z} {g : hG} {p : Nat} {c : List Nat} (h : HM S z g p c) : S.1[g.pb p]? = some (9, 0) := h.2.1
theorem HM.cod {S : hS} {z : Z} {g : hG} {p : Nat} {c : List Nat} (h : HM S z g p c) : S.2.1 900 (g.pb p) = nI (b36 c) := h.2.2.1
theorem HM.bnk {S : hS} {z : Z} {g : hG} {p : Nat} {c : List Nat} (h : HM S z g p c) : S.2.1 901 (g.pb p) = b2i (decide (p = 0)) := h.2.2.2.1
theorem HM.crd {S : hS} {z : Z} {g : hG} {p : Nat} {c : List Nat} (h : HM S z g p c) : S.2.2.1 904 (g.pb p) = lI (z.crd p) := h.2.2.2.2.1
theorem HM.acr {S : hS} {z : Z} {g : hG} {p : Nat} {c : List Nat} (h : HM S z g p c) : S.2.2.2.1 902 (g.pb p) = some (g.pb p + 1) := h.2.2.2.2.2.1
theorem HM.ack {S : hS} {z : Z} {g : hG} {p : Nat} {c : List Nat} (h : HM S z g p c) : S.1[g.pb p + 1]? = some (26, 64) := h.2.2.2.2.2.2.1
theorem HM.acc {S : hS} {z : Z} {g : hG} {p : Nat} {c : List Nat} (h : HM S z g p c) : ∀ a, a < 64 → S.2.2.2.2.2.2 (g.pb p + 1) a = g.ad (64 * p + a) := h.2.2.2.2.2.2.2.1
theorem HM.rlr {S : hS} {z : Z} {g : hG} {p : Nat} {c : List Nat} (h : HM S z g p c) : S.2.2.2.1 903 (g.pb p) = some (g.pb p + 2) := h.2.2.2.2.2.2.2.2.1
theorem HM.rlk {S : hS} {z : Z} {g : hG} {p : Nat} {c : List Nat} (h : HM S z g p c) : S.1[g.pb p + 2]? = some (13, 0) := h.2.2.2.2.2.2.2.2.2.1
theorem HM.rom {S : hS} {z : Z} {g : hG} {p : Nat} {c : List Nat} (h : HM S z g p c) : HL S g.ad p (g.pb p + 2) := h.2.2.2.2.2.2.2.2.2.2
def HA (S : hS) (g : hG) (a : Nat) (x : Ast) : Prop := (S.2.2.2.2.2.2 12 a = some (g.ab a)) ∧ (S.1[g.ab a]? = some (3, 0)) ∧ (S.2.1 300 (g.ab a) = nI (b36 x.cd)) ∧ (S.2.1 301 (g.ab a) = b2i (!x.mny)) ∧ (S.2.2.1 302 (g.ab a) = lI x.prc) ∧ (S.2.1 303 (g.ab a) = nI x.cut)
theorem HA.at {S : hS} {g : hG} {a : Nat} {x : Ast} (h : HA S g a x) : S.2.2.2.2.2.2 12 a = some (g.ab a) := h.1
theorem HA.k {S : hS} {g : hG} {a : Nat} {x : Ast} (h : HA S g a x) : S.1[g.ab a]? = some (3, 0) := h.2.1
theorem HA.cod {S : hS} {g : hG} {a : Nat} {x : Ast} (h : HA S g a x) : S.2.1 300 (g.ab a) = nI (b36 x.cd) := h.2.2.1
theorem HA.sec {S : hS} {g : hG} {a : Nat} {x : Ast} (h : HA S g a x) : S.2.1 301 (g.ab a) = b2i (!x.mny) := h.2.2.2.1
theorem HA.prc {S : hS} {g : hG} {a : Nat} {x : Ast} (h : HA S g a x) : S.2.2.1 302 (g.ab a) = lI x.prc := h.2.2.2.2.1
theorem HA.cut {S : hS} {g : hG} {a : Nat} {x : Ast} (h : HA S g a x) : S.2.1 303 (g.ab a) = nI x.cut := h.2.2.2.2.2
def HB (S : hS) (z : Z) (g : hG) : Prop := (hE hs_fix S.1) ∧ (HT S z g.ad) ∧ (S.2.1 401 10 = nI z.mem.length) ∧ (∀ p c, z.mem[p]? = some c → HM S z g p c) ∧ (∀ p q, p < z.mem.length → q < z.mem.length → g.pb p = g.pb q → p = q) ∧ (∀ p q e, p < z.mem.length → q < z.mem.length → S.2.2.2.1 1300 (g.pb p + 2) = some e → S.2.2.2.1 1300 (g.pb q + 2) = some e → e ≠ am_M + 1 → p = q) ∧ (S.2.1 403 10 = nI z.ast.length) ∧ (∀ a x, z.ast[a]? = some x → HA S g a x) ∧ (∀ a b, a < z.ast.length → b < z.ast.length → g.ab a = g.ab b → a = b) ∧ (S.2.1 404 10 = oI z.fc) ∧ (S.2.1 405 10 = Int32.ofInt z.lims) ∧ (S.2.2.1 406 10 = lI z.all)
theorem HB.fix {S : hS} {z : Z} {g : hG} (h : HB S z g) : hE hs_fix S.1 := h.1
theorem HB.tab {S : hS} {z : Z} {g : hG} (h : HB S z g) : HT S z g.ad := h.2.1
theorem HB.mem {S : hS} {z : Z} {g : hG} (h : HB S z g) : S.2.1 401 10 = nI z.mem.length := h.2.2.1
theorem HB.par {S : hS} {z : Z} {g : hG} (h : HB S z g) : ∀ p c, z.mem[p]? = some c → HM S z g p c := h.2.2.2.1
theorem HB.pin {S : hS} {z : Z} {g : hG} (h : HB S z g) : ∀ p q, p < z.mem.length → q < z.mem.length → g.pb p = g.pb q → p = q := h.2.2.2.2.1
theorem HB.rin {S : hS} {z : Z} {g : hG} (h : HB S z g) : ∀ p q e, p < z.mem.length → q < z.mem.length → S.2.2.2.1 1300 (g.pb p + 2) = some e → S.2.2.2.1 1300 (g.pb q + 2) = some e → e ≠ am_M + 1 → p = q := h.2.2.2.2.2.1
theorem HB.asn {S : hS} {z : Z} {g : hG} (h : HB S z g) : S.2.1 403 10 = nI z.ast.length := h.2.2.2.2.2.2.1
theorem HB.ast {S : hS} {z : Z} {g : hG} (h : HB S z g) : ∀ a x, z.ast[a]? = some x → HA S g a x := h.2.2.2.2.2.2.2.1
theorem HB.ain {S : hS} {z : Z} {g : hG} (h : HB S z g) : ∀ a b, a < z.ast.length → b < z.ast.length → g.ab a = g.ab b → a = b := h.2.2.2.2.2.2.2.2.1
theorem HB.fir {S : hS} {z : Z} {g : hG} (h : HB S z g) : S.2.1 404 10 = oI z.fc := h.2.2.2.2.2.2.2.2.2.1
theorem HB.lims {S : hS} {z : Z} {g : hG} (h : HB S z g) : S.2.1 405 10 = Int32.ofInt z.lims := h.2.2.2.2.2.2.2.2.2.2.1
theorem HB.all {S : hS} {z : Z} {g : hG} (h : HB S z g) : S.2.2.1 406 10 = lI z.all := h.2.2.2.2.2.2.2.2.2.2.2
/-- the nets of the instruction at x: its places, in their order -/
def HN (S : hS) (ad : Nat → Option Nat) (fc : Option Nat) (x : Nat) (i : Ins) (ks : List Nat) : Prop := (S.2.2.2.1 708 x = some (x + 2)) ∧ (S.1[x + 2]? = some (26, 4 * i.legs.length)) ∧ (S.2.2.2.1 709 x = some (x + 3)) ∧ (S.1[x + 3]? = some (21, 4 * i.legs.length)) ∧ (S.2.1 710 x = nI ks.length) ∧ (ks.length ≤ 4 * i.legs.length) ∧ (ks.Nodup) ∧ (∀ (j P : Nat), ks[j]? = some P → ∃ y, S.2.2.2.2.2.2 (x + 2) j = some y ∧ ad P = some y ∧ S.2.2.2.2.2.1 (x + 3) j = lI (i.net fc P)) ∧ (∀ P, P ∈ ks ↔ P ∈ i.pls fc)
theorem HN.rc {S : hS} {ad : Nat → Option Nat} {fc : Option Nat} {x : Nat} {i : Ins} {ks : List Nat} (h : HN S ad fc x i ks) : S.2.2.2.1 708 x = some (x + 2) := h.1
theorem HN.kc {S : hS} {ad : Nat → Option Nat} {fc : Option Nat} {x : Nat} {i : Ins} {ks : List Nat} (h : HN S ad fc x i ks) : S.1[x + 2]? = some (26, 4 * i.legs.length) := h.2.1
theorem HN.rd {S : hS} {ad : Nat → Option Nat} {fc : Option Nat} {x : Nat} {i : Ins} {ks : List Nat} (h : HN S ad fc x i ks) : S.2.2.2.1 709 x = some (x + 3) := h.2.2.1
theorem HN.kd {S : hS} {ad : Nat → Option Nat} {fc : Option Nat} {x : Nat} {i : Ins} {ks : List Nat} (h : HN S ad fc x i ks) : S.1[x + 3]? = some (21, 4 * i.legs.length) := h.2.2.2.1
theorem HN.sz {S : hS} {ad : Nat → Option Nat} {fc : Option Nat} {x : Nat} {i : Ins} {ks : List Nat} (h : HN S ad fc x i ks) : S.2.1 710 x = nI ks.length := h.2.2.2.2.1
theorem HN.le {S : hS} {ad : Nat → Option Nat} {fc : Option Nat} {x : Nat} {i : Ins} {ks : List Nat} (h : HN S ad fc x i ks) : ks.length ≤ 4 * i.legs.length := h.2.2.2.2.2.1
theorem HN.nd {S : hS} {ad : Nat → Option Nat} {fc : Option Nat} {x : Nat} {i : Ins} {ks : List Nat} (h : HN S ad fc x i ks) : ks.Nodup := h.2.2.2.2.2.2.1
theorem HN.row {S : hS} {ad : Nat → Option Nat} {fc : Option Nat} {x : Nat} {i : Ins} {ks : List Nat} (h : HN S ad fc x i ks) : ∀ (j P : Nat), ks[j]? = some P → ∃ y, S.2.2.2.2.2.2 (x + 2) j = some y ∧ ad P = some y ∧ S.2.2.2.2.2.1 (x + 3) j = lI (i.net fc P) := h.2.2.2.2.2.2.2.1
theorem HN.mem {S : hS} {ad : Nat → Option Nat} {fc : Option Nat} {x : Nat} {i : Ins} {ks : List Nat} (h : HN S ad fc x i ks) : ∀ P, P ∈ ks ↔ P ∈ i.pls fc := h.2.2.2.2.2.2.2.2
/-- whom it awaits -/
def HW (S : hS) (x : Nat) (i : Ins) (ws : List Nat) : Prop := (S.2.2.2.1 706 x = some (x + 1)) ∧ (S.1[x + 1]? = some (20, i.legs.length)) ∧ (S.2.1 707 x = nI ws.length) ∧ (ws.length ≤ i.legs.length) ∧ (ws.Nodup) ∧ (∀ (j v : Nat), ws[j]? = some v → S.2.2.2.2.1 (x + 1) j = nI v) ∧ (∀ v, v ∈ ws ↔ (∃ l ∈ i.legs, l.f = v) ∧ v ∉ i.ag)
theorem HW.rw {S : hS} {x : Nat} {i : Ins} {ws : List Nat} (h : HW S x i ws) : S.2.2.2.1 706 x = some (x + 1) := h.1
theorem HW.kw {S : hS} {x : Nat} {i : Ins} {ws : List Nat} (h : HW S x i ws) : S.1[x + 1]? = some (20, i.legs.length) := h.2.1
theorem HW.sz {S : hS} {x : Nat} {i : Ins} {ws : List Nat} (h : HW S x i ws) : S.2.1 707 x = nI ws.length := h.2.2.1
theorem HW.le {S : hS} {x : Nat} {i : Ins} {ws : List Nat} (h : HW S x i ws) : ws.length ≤ i.legs.length := h.2.2.2.1
theorem HW.nd {S : hS} {x : Nat} {i : Ins} {ws : List Nat} (h : HW S x i ws) : ws.Nodup := h.2.2.2.2.1
theorem HW.row {S : hS} {x : Nat} {i : Ins} {ws : List Nat} (h : HW S x i ws) : ∀ (j v : Nat), ws[j]? = some v → S.2.2.2.2.1 (x + 1) j = nI v := h.2.2.2.2.2.1
theorem HW.mem {S : hS} {x : Nat} {i : Ins} {ws : List Nat} (h : HW S x i ws) : ∀ v, v ∈ ws ↔ (∃ l ∈ i.legs, l.f = v) ∧ v ∉ i.ag := h.2.2.2.2.2.2
/-- who sent it, and its name -/
def HE (S : hS) (mem : List (List Nat)) (x : Nat) (i : Ins) : Prop := (S.1[x]? = some (7, 0)) ∧ (S.2.1 701 x = nI (b36 (mem.getD i.who []))) ∧ (S.2.2.1 702 x = lI (b36 i.nm))
theorem HE.k {S : hS} {mem : List (List Nat)} {x : Nat} {i : Ins} (h : HE S mem x i) : S.1[x]? = some (7, 0) := h.1
theorem HE.cod {S : hS} {mem : List (List Nat)} {x : Nat} {i : Ins} (h : HE S mem x i) : S.2.1 701 x = nI (b36 (mem.getD i.who [])) := h.2.1
theorem HE.nm {S : hS} {mem : List (List Nat)} {x : Nat} {i : Ins} (h : HE S mem x i) : S.2.2.1 702 x = lI (b36 i.nm) := h.2.2
def HI (S : hS) (z : Z) (ad : Nat → Option Nat) (x : Nat) (i : Ins) : Prop := (HE S z.mem x i) ∧ (S.2.1 700 x = nI i.who) ∧ (S.2.1 703 x = nI i.pr) ∧ (S.2.1 704 x = b2i i.wt) ∧ (∃ ks, HN S ad z.fc x i ks) ∧ (∃ ws, HW S x i ws)
theorem HI.e {S : hS} {z : Z} {ad : Nat → Option Nat} {x : Nat} {i : Ins} (h : HI S z ad x i) : HE S z.mem x i := h.1
theorem HI.who {S : hS} {z : Z} {ad : Nat → Option Nat} {x : Nat} {i : Ins} (h : HI S z ad x i) : S.2.1 700 x = nI i.who := h.2.1
theorem HI.pr {S : hS} {z : Z} {ad : Nat → Option Nat} {x : Nat} {i : Ins} (h : HI S z ad x i) : S.2.1 703 x = nI i.pr := h.2.2.1
theorem HI.st {S : hS} {z : Z} {ad : Nat → Option Nat} {x : Nat} {i : Ins} (h : HI S z ad x i) : S.2.1 704 x = b2i i.wt := h.2.2.2.1
theorem HI.net {S : hS} {z : Z} {ad : Nat → Option Nat} {x : Nat} {i : Ins} (h : HI S z ad x i) : ∃ ks, HN S ad z.fc x i ks := h.2.2.2.2.1
theorem HI.awt {S : hS} {z : Z} {ad : Nat → Option Nat} {x : Nat} {i : Ins} (h : HI S z ad x i) : ∃ ws, HW S x i ws := h.2.2.2.2.2
def HQ (S : hS) (z : Z) (g : hG) (q u : List Ins) : Prop := (S.2.1 1101 16 = nI q.length) ∧ (∀ (j : Nat) (i : Ins), q[j]? = some i → S.2.2.2.2.2.2 17 j = some (g.xi i)) ∧ (S.2.1 1103 16 = nI u.length) ∧ (∀ (j : Nat) (i : Ins), u[j]? = some i → S.2.2.2.2.2.2 18 j = some (g.xi i)) ∧ (∀ i ∈ z.ins, HI S z g.ad (g.xi i) i) ∧ (∀ i ∈ z.ins, ∀ j ∈ z.ins, g.xi i = g.xi j → i.who = j.who ∧ i.nm = j.nm) ∧ (z.isq q) ∧ (u = z.ins.filter fun i => !i.wt)
theorem HQ.qs {S : hS} {z : Z} {g : hG} {q u : List Ins} (h : HQ S z g q u) : S.2.1 1101 16 = nI q.length := h.1
theorem HQ.q {S : hS} {z : Z} {g : hG} {q u : List Ins} (h : HQ S z g q u) : ∀ (j : Nat) (i : Ins), q[j]? = some i → S.2.2.2.2.2.2 17 j = some (g.xi i) := h.2.1
theorem HQ.us {S : hS} {z : Z} {g : hG} {q u : List Ins} (h : HQ S z g q u) : S.2.1 1103 16 = nI u.length := h.2.2.1
theorem HQ.u {S : hS} {z : Z} {g : hG} {q u : List Ins} (h : HQ S z g q u) : ∀ (j : Nat) (i : Ins), u[j]? = some i → S.2.2.2.2.2.2 18 j = some (g.xi i) := h.2.2.2.1
theorem HQ.ins {S : hS} {z : Z} {g : hG} {q u : List Ins} (h : HQ S z g q u) : ∀ i ∈ z.ins, HI S z g.ad (g.xi i) i := h.2.2.2.2.1
theorem HQ.inj {S : hS} {z : Z} {g : hG} {q u : List Ins} (h : HQ S z g q u) : ∀ i ∈ z.ins, ∀ j ∈ z.ins, g.xi i = g.xi j → i.who = j.who ∧ i.nm = j.nm := h.2.2.2.2.2.1
theorem HQ.isq {S : hS} {z : Z} {g : hG} {q u : List Ins} (h : HQ S z g q u) : z.isq q := h.2.2.2.2.2.2.1
theorem HQ.isu {S : hS} {z : Z} {g : hG} {q u : List Ins} (h : HQ S z g q u) : u = z.ins.filter fun i => !i.wt := h.2.2.2.2.2.2.2
/-- the looks: L of them so far -/
def HK (S : hS) (ad : Nat → Option Nat) (L : Nat) : Prop := (S.2.1 1106 16 = nI L) ∧ (∀ P x, ad P = some x → ∃ v, v ≤ L ∧ S.2.1 1008 x = nI v)
theorem HK.look {S : hS} {ad : Nat → Option Nat} {L : Nat} (h : HK S ad L) : S.2.1 1106 16 = nI L := h.1
theorem HK.mk {S : hS} {ad : Nat → Option Nat} {L : Nat} (h : HK S ad L) : ∀ P x, ad P = some x → ∃ v, v ≤ L ∧ S.2.1 1008 x = nI v := h.2
/-- what is to be told, with whether it settled -/
def HO (S : hS) (z : Z) (g : hG) (es : List (Ins × Bool)) : Prop := (S.2.1 1105 16 = nI es.length) ∧ (∀ (j : Nat) (e : Ins × Bool), es[j]? = some e → S.2.2.2.2.2.2 19 j = some (g.xi e.1) ∧ S.2.1 704 (g.xi e.1) = (if e.2 then 2 else 3) ∧ HE S z.mem (g.xi e.1) e.1) ∧ (∀ e ∈ es, ∀ i ∈ z.ins, g.xi e.1 ≠ g.xi i) ∧ (es.length + z.ins.length ≤ 250)
theorem HO.sz {S : hS} {z : Z} {g : hG} {es : List (Ins × Bool)} (h : HO S z g es) : S.2.1 1105 16 = nI es.length := h.1
theorem HO.row {S : hS} {z : Z} {g : hG} {es : List (Ins × Bool)} (h : HO S z g es) : ∀ (j : Nat) (e : Ins × Bool), es[j]? = some e → S.2.2.2.2.2.2 19 j = some (g.xi e.1) ∧ S.2.1 704 (g.xi e.1) = (if e.2 then 2 else 3) ∧ HE S z.mem (g.xi e.1) e.1 := h.2.1
theorem HO.dj {S : hS} {z : Z} {g : hG} {es : List (Ins × Bool)} (h : HO S z g es) : ∀ e ∈ es, ∀ i ∈ z.ins, g.xi e.1 ≠ g.xi i := h.2.2.1
theorem HO.len {S : hS} {z : Z} {g : hG} {es : List (Ins × Bool)} (h : HO S z g es) : es.length + z.ins.length ≤ 250 := h.2.2.2
