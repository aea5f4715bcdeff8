/-! The class's credits. -/
def wl (T : hS) (l : Nat → Nat → Int64) : hS := (T.1, T.2.1, l, T.2.2.2)
/-- long fields but credits and floors are those of T -/
def AG (T : hS) (l : Nat → Nat → Int64) : Prop := ∀ k, k ≠ 406 → k ≠ 904 → k ≠ 1003 → l k = T.2.2.1 k
theorem nw1_row {α : Type} {f f' : Nat → Nat → α} {n : Nat} {d : α} {k : Nat} (h : f k = f' k) : nw1 f n d k = nw1 f' n d k := by
  funext a
  show (if a = n then d else f k a) = (if a = n then d else f' k a)
  rw [h]
section HCR
variable {T : hS} {z : Z} {g : hG} {l : Nat → Nat → Int64}
theorem acc_some (h : HB T z g) (hX : okX z) {p a y : Nat} (hp : p < z.mem.length) (ha : a < z.ast.length) (had : g.ad (64 * p + a) = some y) (l : Nat → Nat → Int64) : h_Bo_account (nI p) (nI a) (wl T l) = some (y, wl T l) := by
  have hm := hX.mem
  have hs := hX.ast
  obtain ⟨c, hc, hM⟩ := h.p hp
  unfold h_Bo_account
  have e1 : (wl T l).2.2.2.2.2.2 11 p = some (g.pb p) := hM.at
  have e2 : (wl T l).2.2.2.1 902 (g.pb p) = some (g.pb p + 1) := hM.acr
  have e3 : hln (wl T l).1 (g.pb p + 1) = 64 := hln_of hM.ack
  have e4 : (wl T l).2.2.2.2.2.2 (g.pb p + 1) a = some y := (hM.acc a (by omega)).trans had
  rw [ix_N (by omega) (by omega), Option.bind_some, e1, Option.bind_some, e2, Option.bind_some, e3, ix_N (by omega) (by omega), Option.bind_some, e4, if_neg (by simp), Option.bind_some]
  rfl
/-- a new account, its cells -/
def accN (T : hS) (b a : Nat) (fl : Int32) (fr : Int64) : hS := hpQ (hpL (hpI (hpI (hNew T 10 0) 1000 T.1.length (-1)) 1002 T.1.length fl) 1003 T.1.length fr) (b + 1) a (some T.1.length)
def accL (T : hS) (l : Nat → Nat → Int64) (fr : Int64) : Nat → Nat → Int64 := up2 (nw1 l T.1.length 0) 1003 T.1.length fr
theorem acc_none (h : HB T z g) (hX : okX z) {p a : Nat} (hp : p < z.mem.length) (ha : a < z.ast.length) (hlen : T.1.length < am_M) (had : g.ad (64 * p + a) = none) (l : Nat → Nat → Int64) : h_Bo_account (nI p) (nI a) (wl T l) = some (T.1.length, wl (accN T (g.pb p) a (b2i (z.fld (64 * p + a))) (lI (z.flr (64 * p + a)))) (accL T l (if some a = z.fc then - l 904 (g.pb p) else 0))) := by
  have hm := hX.mem
  have hs := hX.ast
  obtain ⟨c, hc, hM⟩ := h.p hp
  have hb0 := len_get hM.k
  have hb1 := len_get hM.ack
  have h60 : 60 ≤ T.1.length := by have := h.fix.len; have h2 : hs_fix.length = 60 := rfl; omega
  unfold h_Bo_account
  have e1 : (wl T l).2.2.2.2.2.2 11 p = some (g.pb p) := hM.at
  have e2 : (wl T l).2.2.2.1 902 (g.pb p) = some (g.pb p + 1) := hM.acr
  have e3 : hln (wl T l).1 (g.pb p + 1) = 64 := hln_of hM.ack
  have e4 : (wl T l).2.2.2.2.2.2 (g.pb p + 1) a = none := (hM.acc a (by omega)).trans had
  have al : hs_al (wl T l) = some T.1.length := if_pos hlen
  rw [ix_N (by omega) (by omega), Option.bind_some, e1, Option.bind_some, e2, Option.bind_some, e3, ix_N (by omega) (by omega), Option.bind_some, e4, if_pos rfl, al, Option.bind_some]
  unfold h_Po_init
  rw [Option.bind_some]
  have f2 : (hpI (hNew (wl T l) 10 0) 1000 T.1.length (-1)).2.1 901 (g.pb p) = b2i (decide (p = 0)) := by
    show up2 (nw1 T.2.1 T.1.length 0) 1000 T.1.length (-1) 901 (g.pb p) = _
    rw [up2_na (by omega), nw1_ne (by omega), hM.bnk]
  have f3 : (hpI (hNew (wl T l) 10 0) 1000 T.1.length (-1)).2.1 404 10 = oI z.fc := by
    show up2 (nw1 T.2.1 T.1.length 0) 1000 T.1.length (-1) 404 10 = _
    rw [up2_na (by omega), nw1_ne (by omega), h.fir]
  have f4 : (hpI (hNew (wl T l) 10 0) 1000 T.1.length (-1)).2.2.1 904 (g.pb p) = l 904 (g.pb p) := by
    show nw1 l T.1.length 0 904 (g.pb p) = _
    rw [nw1_ne (by omega)]
  have f5 : (hpI (hNew (wl T l) 10 0) 1000 T.1.length (-1)).2.2.2.1 902 (g.pb p) = some (g.pb p + 1) := by
    show nw1 T.2.2.2.1 T.1.length none 902 (g.pb p) = _
    rw [nw1_ne (by omega), hM.acr]
  have f6 : hln (hpI (hNew (wl T l) 10 0) 1000 T.1.length (-1)).1 (g.pb p + 1) = 64 := hln_of (k := 26) (by
    show (T.1 ++ [(10, 0)])[g.pb p + 1]? = _
    rw [List.getElem?_append_left hb1]; exact hM.ack)
  have f7 : (if ¬ b2i (decide (p = 0)) = 0 then some (0 : Int32) else some 1) = some (b2i (z.fld (64 * p + a))) := by
    rw [fld_a (by omega)]
    by_cases h0 : p = 0
    · rw [decide_eq_true h0, if_pos (by decide), decide_eq_false (by omega)]; rfl
    · rw [decide_eq_false h0, if_neg (by decide), decide_eq_true (by omega)]; rfl
  have f8 : (if ¬ nI a = oI z.fc then some (0 : Int64) else some (-(l 904 (g.pb p)))) = some (if some a = z.fc then - l 904 (g.pb p) else 0) := by
    have hq := oI_eq (z := z) (a := a) (fun b hb => by have := hX.fc b hb; omega) (by omega)
    by_cases hfc : some a = z.fc
    · rw [if_neg (fun w => w (hq.mpr hfc)), if_pos hfc]
    · rw [if_pos (fun w => hfc (hq.mp w)), if_neg hfc]
  have f9 : b2i (z.fld (64 * p + a)) = 0 ∨ b2i (z.fld (64 * p + a)) = 1 := by cases z.fld (64 * p + a) <;> decide
  rw [f2, f7, Option.bind_some, if_pos f9, f3, f4, f8, Option.bind_some, f5, Option.bind_some, f6, ix_N (by omega) (by omega), Option.bind_some, Option.bind_some, Option.bind_some]
  rfl
/-- the account under other credits -/
theorem acc_wl (h : HB T z g) (hX : okX z) {p a : Nat} (hp : p < z.mem.length) (ha : a < z.ast.length) (hlen : T.1.length < am_M) : ∃ y T' g', GR T T' z g g' ∧ g'.ad (64 * p + a) = some y ∧ T'.1.length ≤ T.1.length + 1 ∧ ∀ l, AG T l → ∃ l', h_Bo_account (nI p) (nI a) (wl T l) = some (y, wl T' l') ∧ AG T' l' ∧ (∀ k x, x < T.1.length → l' k x = l k x) ∧ (y < T.1.length ∨ (y = T.1.length ∧ g.ad (64 * p + a) = none ∧ (∀ P, g'.ad P = if P = 64 * p + a then some y else g.ad P) ∧ l' 1003 y = if some a = z.fc then - l 904 (g.pb p) else 0)) ∧ (g.ad (64 * p + a) = some y → g' = g) := by
  cases had : g.ad (64 * p + a) with
  | some y => exact ⟨y, T, g, GR.rf h, had, by omega, fun l hl => ⟨l, acc_some h hX hp ha had l, hl, fun _ _ _ => rfl, Or.inl (h.tab.pos _ y had).len, fun _ => rfl⟩⟩
  | none =>
    obtain ⟨y, T', g', e1, e2, e3, e4⟩ := h_account h hX hp ha hlen
    have ew := acc_none h hX hp ha hlen had T.2.2.1
    have e0 : wl T T.2.2.1 = T := rfl
    rw [e0, e1] at ew
    have hy : y = T.1.length := (Prod.mk.inj (Option.some.inj ew)).1
    have hT' := (Prod.mk.inj (Option.some.inj ew)).2
    subst hy
    refine ⟨T.1.length, T', g', e2, e3, e4, fun l hl => ⟨accL T l (if some a = z.fc then - l 904 (g.pb p) else 0), ?_, ?_, ?_, Or.inr ⟨rfl, rfl, fun P => ?_, ?_⟩, fun c => by cases c⟩⟩
    · rw [acc_none h hX hp ha hlen had l]
      have : ∀ {U V : hS} {m : Nat → Nat → Int64}, U.1 = V.1 → U.2.1 = V.2.1 → U.2.2.2 = V.2.2.2 → wl U m = wl V m := fun {U V m} a b c => by unfold wl; rw [a, b, c]
      rw [this (V := T') (by rw [hT']; rfl) (by rw [hT']; rfl) (by rw [hT']; rfl)]
    · intro k h1 h2 h3
      rw [hT']
      show up2 (nw1 l T.1.length 0) 1003 T.1.length _ k = up2 (nw1 T.2.2.1 T.1.length 0) 1003 T.1.length _ k
      rw [up2_row h3, up2_row h3]
      exact nw1_row (hl k h1 h2 h3)
    · intro k x hx
      show up2 (nw1 l T.1.length 0) 1003 T.1.length _ k x = _
      rw [up2_na (by omega), nw1_ne (by omega)]
    · by_cases hP : P = 64 * p + a
      · rw [if_pos hP, hP]; exact e3
      · rw [if_neg hP]
        cases hg : g.ad P with
        | some x => exact e2.ext P x hg
        | none =>
          cases hg' : g'.ad P with
          | none => rfl
          | some x =>
            exfalso
            rcases e2.new P x hg' with c | ⟨_, _, c, d, _⟩
            · rw [hg] at c; cases c
            · have hx : x = T.1.length := by
                have h1 := c.len
                have h2 := d
                omega
              subst hx
              exact hP (e2.ninj P _ T.1.length hg' e3 hg had)
    · show up2 (nw1 l T.1.length 0) 1003 T.1.length _ 1003 T.1.length = _
      rw [up2_eq]
theorem h_pledged_wl (h : HB T z g) (hX : okX z) (hfc : ∀ a, z.fc = some a → z.mny a = true) (hmp : ∀ P, P < 16384 → z.mny (P % 64) = true → z.pl P = 0) {p a : Nat} (hp : p < z.mem.length) (ha : a < z.ast.length) (h3 : ∀ y, g.ad (64 * p + a) = some y → z.mny a = false → l 1003 y = lI (z.flr (64 * p + a))) : h_Bo_pledgedOf (nI p) (nI a) (wl T l) = some (lI (z.pl (64 * p + a))) := by
  have hm := hX.mem
  have hs := hX.ast
  obtain ⟨c, hc, hM⟩ := h.p hp
  obtain ⟨x, hx, hA⟩ := h.a ha
  have e64 : (64 * p + a) % 64 = a := by omega
  unfold h_Bo_pledgedOf
  have e1 : (wl T l).2.2.2.2.2.2 11 p = some (g.pb p) := hM.at
  have e2 : (wl T l).2.2.2.1 902 (g.pb p) = some (g.pb p + 1) := hM.acr
  have e3 : hln (wl T l).1 (g.pb p + 1) = 64 := hln_of hM.ack
  have e4 : (wl T l).2.2.2.2.2.2 (g.pb p + 1) a = g.ad (64 * p + a) := hM.acc a (by omega)
  rw [ix_N (by omega) (by omega), Option.bind_some, e1, Option.bind_some, e2, Option.bind_some, e3, ix_N (by omega) (by omega), Option.bind_some, e4]
  cases had : g.ad (64 * p + a) with
  | none => rw [if_pos rfl, (h.tab.acc0 _ (by omega) had).2.1]; rfl
  | some y =>
    have e5 : (wl T l).2.2.2.2.2.2 12 a = some (g.ab a) := hA.at
    have e6 : (wl T l).2.1 301 (g.ab a) = b2i (!x.mny) := hA.sec
    rw [if_neg (by simp), Option.bind_some, Option.bind_some, e5, Option.bind_some, e6]
    cases hy : x.mny with
    | true =>
      rw [if_neg (by decide), hmp _ (by omega) (by rw [e64, mny_some hx]; exact hy)]; rfl
    | false =>
      rw [if_pos (by decide)]
      have : z.flr (64 * p + a) = z.pl (64 * p + a) := by
        unfold Z.flr
        rw [if_pos (by omega), e64, if_neg (fun c => by
          have := hfc a c.symm
          rw [mny_some hx, hy] at this; cases this), if_neg (by rw [mny_some hx, hy]; decide)]
      have h4 : (wl T l).2.2.1 1003 y = lI (z.flr (64 * p + a)) := h3 y had (by rw [mny_some hx]; exact hy)
      rw [h4, this]
end HCR
/-! Other pledges, other prices. -/
def Z.uPl (z : Z) (P : Nat) (v : Int) : Z := ((z.1.1, z.1.2.1, z.1.2.2.1, (fun Q => if Q = P then v else z.pl Q), z.1.2.2.2.2), z.2)
theorem uPl_pl (z : Z) (P : Nat) (v : Int) (Q : Nat) : (z.uPl P v).pl Q = if Q = P then v else z.pl Q := rfl
def Z.uPrc (z : Z) (a prc cut : Nat) : Z := ((z.1.1, z.ast.modify a (fun x => mkAst x.cd x.mny prc cut), z.1.2.2), z.2)
theorem uPrc_ast (z : Z) (a prc cut : Nat) : (z.uPrc a prc cut).ast = z.ast.modify a (fun x => mkAst x.cd x.mny prc cut) := rfl
theorem sumN_cong {f f' : Nat → Nat} : ∀ {n : Nat}, (∀ k, k < n → f' k = f k) → sumN f' n = sumN f n := by
  intro n
  induction n with
  | zero => intro _; rfl
  | succ n ih =>
    intro h
    show sumN f' n + f' n = sumN f n + f n
    rw [ih (fun k hk => h k (by omega)), h n (by omega)]
theorem sumN_upd {f f' : Nat → Nat} {a : Nat} (h : ∀ k, k ≠ a → f' k = f k) : ∀ {n : Nat}, a < n → sumN f' n + f a = sumN f n + f' a := by
  intro n
  induction n with
  | zero => intro h; omega
  | succ n ih =>
    intro ha
    show sumN f' n + f' n + f a = sumN f n + f n + f' a
    by_cases e : a = n
    · subst e
      rw [sumN_cong (f := f) (f' := f') (fun k hk => h k (by omega))]
      omega
    · have := ih (by omega)
      rw [h n (fun c => e c.symm)]
      omega
theorem uPl_wor (z : Z) (p a : Nat) (v : Int) (ha : a < 64) {q b : Nat} (hb : b < 64) (h : ¬ (q = p ∧ b = a)) : (z.uPl (64 * p + a) v).wor q b = z.wor q b := by
  unfold Z.wor
  show (match z.ast[b]? with | some x => if x.mny then 0 else wth ((z.uPl (64 * p + a) v).pl (64 * q + b)).toNat x.prc x.cut | none => 0) = _
  rw [uPl_pl, if_neg (by omega)]
  cases z.ast[b]? <;> rfl
theorem uPl_wor1 (z : Z) (p a : Nat) (v : Int) {x : Ast} (hx : z.ast[a]? = some x) (hm : x.mny = false) : (z.uPl (64 * p + a) v).wor p a = wth v.toNat x.prc x.cut := by
  rw [wor_some (z := z.uPl (64 * p + a) v) hx, if_neg (by rw [hm]; decide), uPl_pl, if_pos rfl]
theorem uPl_crd (z : Z) (hs : z.ast.length ≤ 64) {p a : Nat} (ha : a < z.ast.length) (v : Int) : (z.uPl (64 * p + a) v).crd p + z.wor p a = z.crd p + (z.uPl (64 * p + a) v).wor p a := by
  unfold Z.crd
  show sumN ((z.uPl (64 * p + a) v).wor p) z.ast.length + z.wor p a = _
  have key : ∀ {n : Nat}, n ≤ 64 → a < n → sumN ((z.uPl (64 * p + a) v).wor p) n + z.wor p a = sumN (z.wor p) n + (z.uPl (64 * p + a) v).wor p a := by
    intro n
    induction n with
    | zero => intro _ h; omega
    | succ n ih =>
      intro hn h
      show sumN ((z.uPl (64 * p + a) v).wor p) n + (z.uPl (64 * p + a) v).wor p n + z.wor p a = sumN (z.wor p) n + z.wor p n + _
      by_cases e : a = n
      · subst e
        rw [sumN_cong (f := z.wor p) (f' := (z.uPl (64 * p + a) v).wor p) (fun k hk => uPl_wor z p a v (by omega) (by omega) (by omega))]
        omega
      · have := ih (by omega) (by omega)
        rw [uPl_wor z p a v (q := p) (b := n) (by omega) (by omega) (by omega)]
        omega
  exact key hs ha
theorem uPl_crd_ne (z : Z) (hs : z.ast.length ≤ 64) {p a : Nat} (ha : a < z.ast.length) (v : Int) {q : Nat} (h : q ≠ p) : (z.uPl (64 * p + a) v).crd q = z.crd q := sumN_cong fun k hk => uPl_wor z p a v (by omega) (by have : k < z.ast.length := hk; omega) (by omega)
theorem uPl_all (z : Z) (hs : z.ast.length ≤ 64) {p a : Nat} (hp : p < z.mem.length) (ha : a < z.ast.length) (v : Int) : (z.uPl (64 * p + a) v).all + z.crd p = z.all + (z.uPl (64 * p + a) v).crd p := by
  unfold Z.all
  exact sumN_upd (fun k hk => uPl_crd_ne z hs ha v hk) hp
theorem uPrc_wor (z : Z) {a : Nat} (prc cut : Nat) {p b : Nat} (h : b ≠ a) : (z.uPrc a prc cut).wor p b = z.wor p b := by
  unfold Z.wor
  show (match (z.ast.modify a (fun x => mkAst x.cd x.mny prc cut))[b]? with | some x => if x.mny then 0 else wth (z.pl (64 * p + b)).toNat x.prc x.cut | none => 0) = _
  rw [List.getElem?_modify_ne _ _ (fun c => h c.symm)]
  cases z.ast[b]? <;> rfl
theorem uPrc_get (z : Z) {a prc cut : Nat} {x : Ast} (hx : z.ast[a]? = some x) : (z.uPrc a prc cut).ast[a]? = some (mkAst x.cd x.mny prc cut) := by
  rw [uPrc_ast, List.getElem?_modify_eq, hx]; rfl
theorem uPrc_len (z : Z) (a prc cut : Nat) : (z.uPrc a prc cut).ast.length = z.ast.length := by rw [uPrc_ast, List.length_modify]
theorem uPrc_wor1 (z : Z) {a prc cut : Nat} {x : Ast} (hx : z.ast[a]? = some x) (hm : x.mny = false) (p : Nat) : (z.uPrc a prc cut).wor p a = wth (z.pl (64 * p + a)).toNat prc cut := by
  rw [wor_some (uPrc_get z hx), if_neg (by show ¬ x.mny = true; rw [hm]; decide)]
  rfl
theorem uPrc_crd (z : Z) {a : Nat} (prc cut : Nat) (ha : a < z.ast.length) (p : Nat) : (z.uPrc a prc cut).crd p + z.wor p a = z.crd p + (z.uPrc a prc cut).wor p a := by
  unfold Z.crd
  rw [uPrc_len]
  exact sumN_upd (fun k hk => uPrc_wor z prc cut hk) ha
section HC2
variable {T : hS} {z : Z} {g : hG} {l : Nat → Nat → Int64}
theorem crd_wor (z : Z) {p a : Nat} (ha : a < z.ast.length) : z.wor p a ≤ z.crd p := sumN_le (f := z.wor p) ha
theorem h_crPl (h : HB T z g) (hX : okX z) (hC : okC z) (hfc : ∀ a, z.fc = some a → z.mny a = true) (hmp : ∀ P, P < 16384 → z.mny (P % 64) = true → z.pl P = 0) {p a : Nat} (hp : p < z.mem.length) {x : Ast} (hx : z.ast[a]? = some x) (hsec : x.mny = false) {v : Nat} (hv : v ≤ 4000000000000000000) : h_Bo_creditIfPledged (nI p) (nI a) (lI v) T = some (lI ((z.uPl (64 * p + a) v).crd p : Nat)) := by
  have ha := get_lt' hx
  have hm := hX.mem
  have hs := hX.ast
  obtain ⟨c, hc, hM⟩ := h.p hp
  have hA := h.ast a x hx
  obtain ⟨c1, c2⟩ := hC.acd x (List.mem_of_getElem? hx)
  have hpl := hC.pl (64 * p + a)
  have e0 := uPl_crd z hs ha (p := p) v
  rw [uPl_wor1 z p a v hx hsec, wor_some hx, if_neg (by rw [hsec]; decide), Int.toNat_natCast] at e0
  unfold h_Bo_creditIfPledged
  rw [ix_N (by omega) (by omega), Option.bind_some, h_pledged h hX hfc hmp hp ha, Option.bind_some, hA.at, Option.bind_some, hA.prc, hA.cut, pl_nat hC, h_worth _ _ _ (by omega) c1 c2, Option.bind_some, ix_N (by omega) (by omega), Option.bind_some, hM.at, Option.bind_some, h_worth _ _ _ hv c1 c2, Option.bind_some, hM.crd, lI_sub, lI_add]
  congr 2
  omega
theorem h_crPr (h : HB T z g) (hX : okX z) (hC : okC z) (hfc : ∀ a, z.fc = some a → z.mny a = true) (hmp : ∀ P, P < 16384 → z.mny (P % 64) = true → z.pl P = 0) {p a : Nat} (hp : p < z.mem.length) {x : Ast} (hx : z.ast[a]? = some x) (hsec : x.mny = false) {prc cut : Nat} (h1 : prc < 1000000000000000) (h2 : cut < 100) (ag : AG T l) (h904 : l 904 (g.pb p) = lI (z.crd p)) (h3 : ∀ y, g.ad (64 * p + a) = some y → l 1003 y = lI (z.flr (64 * p + a))) : h_Bo_creditIfPriced (nI p) (nI a) (lI prc) (nI cut) (wl T l) = some (lI ((z.uPrc a prc cut).crd p : Nat)) := by
  have ha := get_lt' hx
  have hm := hX.mem
  have hs := hX.ast
  obtain ⟨c, hc, hM⟩ := h.p hp
  have hA := h.ast a x hx
  obtain ⟨c1, c2⟩ := hC.acd x (List.mem_of_getElem? hx)
  have hpl := hC.pl (64 * p + a)
  have e0 := uPrc_crd z prc cut ha p
  rw [uPrc_wor1 z hx hsec, wor_some hx, if_neg (by rw [hsec]; decide)] at e0
  unfold h_Bo_creditIfPriced
  have e5 : (wl T l).2.2.2.2.2.2 12 a = some (g.ab a) := hA.at
  have e6 : (wl T l).2.2.1 302 (g.ab a) = lI x.prc := by
    show l 302 (g.ab a) = _
    rw [ag 302 (by decide) (by decide) (by decide)]; exact hA.prc
  have e7 : (wl T l).2.1 303 (g.ab a) = nI x.cut := hA.cut
  have e8 : (wl T l).2.2.2.2.2.2 11 p = some (g.pb p) := hM.at
  have e9 : (wl T l).2.2.1 904 (g.pb p) = lI (z.crd p) := h904
  rw [ix_N (by omega) (by omega), Option.bind_some, h_pledged_wl h hX hfc hmp hp ha (fun y hy _ => h3 y hy), Option.bind_some, e5, Option.bind_some, e6, e7, pl_nat hC, h_worth _ _ _ (by omega) c1 c2, Option.bind_some, ix_N (by omega) (by omega), Option.bind_some, e8, Option.bind_some, h_worth _ _ _ (by omega) h1 h2, Option.bind_some, e9, lI_sub, lI_add]
  congr 2
  omega
end HC2
