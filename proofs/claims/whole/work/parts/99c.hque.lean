/-! The class's queue: leaving, ending, settling one after the other. -/
theorem ins_eq {L : List Ins} (h : L.Pairwise fun i j => ¬ (i.who = j.who ∧ i.nm = j.nm)) : ∀ {i j : Ins}, i ∈ L → j ∈ L → i.who = j.who → i.nm = j.nm → i = j := by
  induction L with
  | nil => intro i j h1; cases h1
  | cons x L ih =>
    obtain ⟨h1, h2⟩ := List.pairwise_cons.mp h
    intro i j hi hj e1 e2
    rcases List.mem_cons.mp hi with a | a <;> rcases List.mem_cons.mp hj with b | b
    · rw [a, b]
    · subst a; exact absurd ⟨e1, e2⟩ (h1 j b)
    · subst b; exact absurd ⟨e1.symm, e2.symm⟩ (h1 i a)
    · exact ih h2 a b e1 e2
theorem sameK_iff {i j : Ins} : sameK i j = true ↔ i.who = j.who ∧ i.nm = j.nm := by
  unfold sameK
  exact decide_eq_true_iff
theorem xi_same {g : hG} {i j : Ins} (h : sameK i j = true) : g.xi i = g.xi j := by
  obtain ⟨h1, h2⟩ := sameK_iff.mp h
  unfold hG.xi
  rw [h1, h2]
theorem fix_at {S : hS} (h : hE hs_fix S.1) {b : Nat} {p : Nat × Nat} (hp : hs_fix[b]? = some p) : S.1[b]? = some p := h.get hp
theorem kd_ne {sh : List (Nat × Nat)} {a b k l n m : Nat} (h1 : sh[a]? = some (k, n)) (h2 : sh[b]? = some (l, m)) (hk : k ≠ l) : a ≠ b := fun e => by
  rw [e, h2] at h1
  cases h1
  exact hk rfl
def ne_x (x : Nat) (a : Nat) : Bool := decide (a ≠ x)
theorem h_takeOut_loop {v0 x : Nat} {xs : List Nat} (hl : xs.length ≤ 250) : ∀ (d fu j : Nat) (S : hS), S.1[v0]? = some (27, 250) → (∀ (t a : Nat), ((xs.take j).filter (ne_x x))[t]? = some a → S.2.2.2.2.2.2 v0 t = some a) → (∀ (t a : Nat), j ≤ t → xs[t]? = some a → S.2.2.2.2.2.2 v0 t = some a) → xs.length - j = d → d < fu → j ≤ xs.length → ∃ S', hl_Qu_takeOut_5 fu v0 (nI xs.length) x (nI ((xs.take j).filter (ne_x x)).length) (nI j) S = some (nI (xs.filter (ne_x x)).length, S') ∧ (∀ (t a : Nat), (xs.filter (ne_x x))[t]? = some a → S'.2.2.2.2.2.2 v0 t = some a) ∧ hX [] [] [] [] [] [v0] S S' := by
  intro d
  induction d with
  | zero =>
    intro fu j S hk h1 h2 hd hf hj
    obtain ⟨fu, rfl⟩ : ∃ f, fu = f + 1 := ⟨fu - 1, by omega⟩
    rw [List.take_of_length_le (by omega)] at h1
    refine ⟨S, ?_, h1, hX.rf⟩
    unfold hl_Qu_takeOut_5
    rw [if_pos (nI_le0 (by omega) (by omega) (by omega)), List.take_of_length_le (by omega)]
  | succ d ih =>
    intro fu j S hk h1 h2 hd hf hj
    obtain ⟨fu, rfl⟩ : ∃ f, fu = f + 1 := ⟨fu - 1, by omega⟩
    obtain ⟨a, ha⟩ := get_lt (ks := xs) (j := j) (by omega)
    have hq := h2 j a (Nat.le_refl _) ha
    have hkl : ((xs.take j).filter (ne_x x)).length ≤ j := Nat.le_trans (List.length_filter_le _ _) (by rw [List.length_take]; omega)
    by_cases hx : a = x
    · have e : (xs.take (j + 1)).filter (ne_x x) = (xs.take j).filter (ne_x x) := by
        rw [take_snoc ha, List.filter_append, List.filter_cons_of_neg (by unfold ne_x; simp [hx]), List.filter_nil, List.append_nil]
      obtain ⟨S', q1, q2, q3⟩ := ih fu (j + 1) S hk (by rw [e]; exact h1) (fun t b ht hb => h2 t b (by omega) hb) (by omega) (by omega) (by omega)
      refine ⟨S', ?_, q2, q3⟩
      unfold hl_Qu_takeOut_5
      rw [if_neg (nI_ngt (by omega) (by omega) (by omega)), hln_of hk, ix_N (by omega) (by omega), Option.bind_some, hq, Option.bind_some, if_pos (by rw [hx]), Option.bind_some, nI_add1]
      rw [e] at q1
      exact q1
    · have e : (xs.take (j + 1)).filter (ne_x x) = (xs.take j).filter (ne_x x) ++ [a] := by
        rw [take_snoc ha, List.filter_append, List.filter_cons_of_pos (by unfold ne_x; simp [hx]), List.filter_nil]
      have w : hX [] [] [] [] [] [v0] S (hpQ S v0 ((xs.take j).filter (ne_x x)).length (some a)) := hX.rf.pQ (List.mem_singleton.mpr rfl)
      have k1 : ∀ (t b : Nat), ((xs.take (j + 1)).filter (ne_x x))[t]? = some b → (hpQ S v0 ((xs.take j).filter (ne_x x)).length (some a)).2.2.2.2.2.2 v0 t = some b := by
        intro t b hb
        show up2 S.2.2.2.2.2.2 v0 ((xs.take j).filter (ne_x x)).length (some a) v0 t = some b
        rw [up2_at]
        rw [e, List.getElem?_append] at hb
        by_cases ht : t < ((xs.take j).filter (ne_x x)).length
        · rw [if_pos ht] at hb
          rw [if_neg (by omega)]; exact h1 t b hb
        · rw [if_neg ht] at hb
          have := get_lt' hb
          rw [List.length_singleton] at this
          have ht2 : t - ((xs.take j).filter (ne_x x)).length = 0 := by omega
          rw [ht2] at hb
          rw [if_pos (by omega)]; exact hb
      have k2 : ∀ (t b : Nat), j + 1 ≤ t → xs[t]? = some b → (hpQ S v0 ((xs.take j).filter (ne_x x)).length (some a)).2.2.2.2.2.2 v0 t = some b := by
        intro t b ht hb
        show up2 S.2.2.2.2.2.2 v0 ((xs.take j).filter (ne_x x)).length (some a) v0 t = some b
        rw [up2_at, if_neg (by omega)]; exact h2 t b (by omega) hb
      obtain ⟨S', q1, q2, q3⟩ := ih fu (j + 1) (hpQ S v0 ((xs.take j).filter (ne_x x)).length (some a)) hk k1 k2 (by omega) (by omega) (by omega)
      refine ⟨S', ?_, q2, w.tr q3⟩
      unfold hl_Qu_takeOut_5
      rw [if_neg (nI_ngt (by omega) (by omega) (by omega)), hln_of hk, ix_N (by omega) (by omega), Option.bind_some, hq, Option.bind_some, if_neg (fun c => hx (by cases c; rfl)), ix_N (by omega) (by omega), Option.bind_some, Option.bind_some, nI_add1, nI_add1]
      rw [e, List.length_append, List.length_singleton] at q1
      exact q1
theorem h_takeOut {v0 x : Nat} {xs : List Nat} (hl : xs.length ≤ 250) {S : hS} (hk : S.1[v0]? = some (27, 250)) (h : ∀ (t a : Nat), xs[t]? = some a → S.2.2.2.2.2.2 v0 t = some a) : ∃ S', h_Qu_takeOut v0 (nI xs.length) x S = some (nI (xs.filter (ne_x x)).length, S') ∧ (∀ (t a : Nat), (xs.filter (ne_x x))[t]? = some a → S'.2.2.2.2.2.2 v0 t = some a) ∧ hX [] [] [] [] [] [v0] S S' := by
  obtain ⟨S', q1, q2, q3⟩ := h_takeOut_loop (x := x) hl _ 100000 0 S hk (fun t a q => by rw [List.take_zero, List.filter_nil] at q; cases q) (fun t a _ q => h t a q) rfl (by omega) (by omega)
  refine ⟨S', ?_, q2, q3⟩
  unfold h_Qu_takeOut
  have e : hl_Qu_takeOut_5 100000 v0 (nI xs.length) x 0 0 S = some (nI (xs.filter (ne_x x)).length, S') := q1
  rw [e]; rfl
theorem filt_xi {g : hG} {q : List Ins} {i : Ins} (hj : ∀ j ∈ q, g.xi i = g.xi j → i.who = j.who ∧ i.nm = j.nm) : (q.map g.xi).filter (ne_x (g.xi i)) = (q.filter fun j => !(sameK i j)).map g.xi := by
  rw [List.filter_map]
  congr 1
  apply List.filter_congr
  intro j hjq
  show ne_x (g.xi i) (g.xi j) = !(sameK i j)
  unfold ne_x
  cases hs : sameK i j with
  | true => rw [← xi_same hs]; simp
  | false =>
    have : g.xi j ≠ g.xi i := fun c => by
      have := sameK_iff.mpr (hj j hjq c.symm)
      rw [hs] at this; cases this
    simp [this]
theorem map_get {α β : Type} {f : α → β} {q : List α} {R : Nat → β → Prop} : (∀ (t : Nat) (i : α), q[t]? = some i → R t (f i)) ↔ ∀ (t : Nat) (b : β), (q.map f)[t]? = some b → R t b := by
  constructor
  · intro h t b hb
    rw [List.getElem?_map] at hb
    cases hq : q[t]? with
    | none => rw [hq] at hb; cases hb
    | some i => rw [hq] at hb; cases hb; exact h t i hq
  · intro h t i hi
    exact h t (f i) (by rw [List.getElem?_map, hi]; rfl)
/-- an instruction's line is written down -/
theorem h_end {S : hS} {x : Nat} {v : Int32} {n : Nat} (hn : S.2.1 1105 16 = nI n) (h : n < 250) : ∃ S', h_Qu_end x v S = some S' ∧ S'.2.1 1105 16 = nI (n + 1) ∧ S'.2.1 704 x = v ∧ (∀ y, y ≠ x → S'.2.1 704 y = S.2.1 704 y) ∧ S'.2.2.2.2.2.2 19 n = some x ∧ (∀ t, t ≠ n → S'.2.2.2.2.2.2 19 t = S.2.2.2.2.2.2 19 t) ∧ hX [704, 1105] [] [] [] [] [19] S S' := by
  refine ⟨hpI (hpQ (hpI S 704 x v) 19 n (some x)) 1105 16 (nI (n + 1)), ?_, rfl, ?_, fun y hy => ?_, ?_, fun t ht => ?_, ((hX.rf.pI (by decide)).pQ (by decide)).pI (by decide)⟩
  · unfold h_Qu_end
    rw [hn, if_neg (show ¬ (250 : Int32) ≤ nI n from nI_ngt (a := 250) (by omega) (by omega) (by omega)), ix_N h (by omega), Option.bind_some, ← nI_add1, ← hn]
  · simp [hpI, hpQ, up2]
  · simp [hpI, hpQ, up2, hy]
  · simp [hpI, hpQ, up2]
  · simp [hpI, hpQ, up2, ht]
def HZ (S : hS) (z : Z) (g : hG) (q u : List Ins) (L : Nat) (es : List (Ins × Bool)) : Prop := (HB S z g) ∧ (HQ S z g q u) ∧ (HK S g.ad L) ∧ (HO S z g es)
theorem HZ.B {S : hS} {z : Z} {g : hG} {q u : List Ins} {L : Nat} {es : List (Ins × Bool)} (h : HZ S z g q u L es) : HB S z g := h.1
theorem HZ.Q {S : hS} {z : Z} {g : hG} {q u : List Ins} {L : Nat} {es : List (Ins × Bool)} (h : HZ S z g q u L es) : HQ S z g q u := h.2.1
theorem HZ.K {S : hS} {z : Z} {g : hG} {q u : List Ins} {L : Nat} {es : List (Ins × Bool)} (h : HZ S z g q u L es) : HK S g.ad L := h.2.2.1
theorem HZ.O {S : hS} {z : Z} {g : hG} {q u : List Ins} {L : Nat} {es : List (Ins × Bool)} (h : HZ S z g q u L es) : HO S z g es := h.2.2.2
section HBX
variable {ki kl kr ka kb kq : List Nat} {S S' : hS}
theorem HM.x {z z' : Z} {g : hG} {p : Nat} {c : List Nat} (h : HM S z g p c) (w : hX ki kl kr ka kb kq S S') (hf : hE hs_fix S.1) (hq : ∀ k ∈ kq, hK S.1 k 27) (h1 : 900 ∉ ki ∧ 901 ∉ ki ∧ 1301 ∉ ki) (h2 : 904 ∉ kl) (h3 : 902 ∉ kr ∧ 903 ∉ kr ∧ 1300 ∉ kr) (hz : z'.1 = z.1) : HM S' z' g p c := by
  have nq : ∀ {b k n : Nat}, S.1[b]? = some (k, n) → k ≠ 27 → b ∉ kq := fun {b k n} hb hk hm => hk ((hq b hm).un hb)
  have ec : z'.crd p = z.crd p := by unfold Z.crd Z.wor Z.ast Z.pl; rw [hz]
  obtain ⟨e, ts, a1, a2, a3, a4, a5, a6, a7, a8⟩ := h.rom
  refine ⟨(w.eq _ (nq (fix_at hf (b := 11) (p := (24, 256)) rfl) (by decide)) _).trans h.at, by rw [w.sh]; exact h.k, (w.ei _ h1.1 _).trans h.cod, (w.ei _ h1.2.1 _).trans h.bnk, by rw [ec]; exact (w.el _ h2 _).trans h.crd, (w.er _ h3.1 _).trans h.acr, by rw [w.sh]; exact h.ack, fun a ha => (w.eq _ (nq h.ack (by decide)) _).trans (h.acc a ha), (w.er _ h3.2.1 _).trans h.rlr, by rw [w.sh]; exact h.rlk, e, ts, (w.er _ h3.2.2 _).trans a1, by rw [w.sh]; exact a2, by rw [w.sh]; exact a3, (w.ei _ h1.2.2 _).trans a4, by rw [w.sh]; exact a5, a6, fun j t hj => ?_, a8⟩
  obtain ⟨b1, y, b2, b3⟩ := a7 j t hj
  refine ⟨b1, y, ?_, b3⟩
  rcases a2 with rfl | hk
  · exfalso
    have := get_lt' hj
    unfold hlq at a5
    rw [if_pos rfl] at a5
    omega
  · exact (w.eq _ (nq hk.1.ln (by decide)) _).trans b2
theorem HA.x {g : hG} {a : Nat} {y : Ast} (h : HA S g a y) (w : hX ki kl kr ka kb kq S S') (hf : hE hs_fix S.1) (hq : ∀ k ∈ kq, hK S.1 k 27) (h1 : 300 ∉ ki ∧ 301 ∉ ki ∧ 303 ∉ ki) (h2 : 302 ∉ kl) : HA S' g a y := by
  have nq : ∀ {b k n : Nat}, S.1[b]? = some (k, n) → k ≠ 27 → b ∉ kq := fun {b k n} hb hk hm => hk ((hq b hm).un hb)
  exact ⟨(w.eq _ (nq (fix_at hf (b := 12) (p := (25, 64)) rfl) (by decide)) _).trans h.at, by rw [w.sh]; exact h.k, (w.ei _ h1.1 _).trans h.cod, (w.ei _ h1.2.1 _).trans h.sec, (w.el _ h2 _).trans h.prc, (w.ei _ h1.2.2 _).trans h.cut⟩
theorem HB.x {z z' : Z} {g : hG} (h : HB S z g) (w : hX ki kl kr ka kb kq S S') (hq : ∀ k ∈ kq, hK S.1 k 27) (h1 : 900 ∉ ki ∧ 901 ∉ ki ∧ 1301 ∉ ki ∧ 401 ∉ ki ∧ 403 ∉ ki ∧ 404 ∉ ki ∧ 405 ∉ ki ∧ 300 ∉ ki ∧ 301 ∉ ki ∧ 303 ∉ ki) (h2 : 904 ∉ kl ∧ 406 ∉ kl ∧ 302 ∉ kl) (h3 : 902 ∉ kr ∧ 903 ∉ kr ∧ 1300 ∉ kr) (hz : z'.1 = z.1) (ht : HT S' z' g.ad) : HB S' z' g := by
  have e1 : z'.mem = z.mem := by unfold Z.mem; rw [hz]
  have e2 : z'.ast = z.ast := by unfold Z.ast; rw [hz]
  have e3 : z'.fc = z.fc := by unfold Z.fc; rw [hz]
  have e4 : z'.lims = z.lims := by unfold Z.lims; rw [hz]
  have e5 : z'.all = z.all := by unfold Z.all Z.crd Z.wor Z.ast Z.pl Z.mem; rw [hz]
  refine ⟨by rw [w.sh]; exact h.fix, ht, ?_, ?_, ?_, ?_, ?_, ?_, ?_, ?_, ?_, ?_⟩
  · rw [e1]; exact (w.ei _ h1.2.2.2.1 _).trans h.mem
  · rw [e1]; exact fun p c hp => (h.par p c hp).x w h.fix hq ⟨h1.1, h1.2.1, h1.2.2.1⟩ h2.1 h3 hz
  · rw [e1]; exact h.pin
  · rw [e1]; intro p q e hp hq' a b; rw [w.er _ h3.2.2] at a b; exact h.rin p q e hp hq' a b
  · rw [e2]; exact (w.ei _ h1.2.2.2.2.1 _).trans h.asn
  · rw [e2]; exact fun a y hy => (h.ast a y hy).x w h.fix hq ⟨h1.2.2.2.2.2.2.2.1, h1.2.2.2.2.2.2.2.2.1, h1.2.2.2.2.2.2.2.2.2⟩ h2.2.2
  · rw [e2]; exact h.ain
  · rw [e3]; exact (w.ei _ h1.2.2.2.2.2.1 _).trans h.fir
  · rw [e4]; exact (w.ei _ h1.2.2.2.2.2.2.1 _).trans h.lims
  · rw [e5]; exact (w.el _ h2.2.1 _).trans h.all
theorem HK.x {ad : Nat → Option Nat} {L : Nat} (h : HK S ad L) (w : hX ki kl kr ka kb kq S S') (h1 : 1106 ∉ ki ∧ 1008 ∉ ki) : HK S' ad L := ⟨(w.ei _ h1.1 _).trans h.look, fun P x q => by
  obtain ⟨v, a, b⟩ := h.mk P x q
  exact ⟨v, a, (w.ei _ h1.2 _).trans b⟩⟩
end HBX
theorem okI.n {z : Z} {i : Ins} (h : okI z i) : okN z 0 i := ⟨by omega, h.lg, h.len.2⟩
abbrev sI : List Nat := [704, 705, 1007, 1008, 1101, 1105, 1106]
abbrev sI0 : List Nat := [704, 1007, 1101, 1105]
abbrev sL0 : List Nat := [1001, 1005, 1006]
abbrev sL : List Nat := [1001, 1005, 1006, 1009]
abbrev sQ : List Nat := [17, 19]
theorem HI.eqv {S : hS} {z z' : Z} {ad : Nat → Option Nat} {x : Nat} {i : Ins} (h : HI S z ad x i) (h1 : z'.mem = z.mem) (h2 : z'.fc = z.fc) : HI S z' ad x i := ⟨by rw [h1]; exact h.e, h.who, h.pr, h.st, by rw [h2]; exact h.net, h.awt⟩
theorem HT.wIns {S : hS} {z : Z} {ad : Nat → Option Nat} (h : HT S z ad) (L : List Ins) : HT S (z.wIns L) ad := ⟨fun P x q => ⟨(h.pos P x q).k, (h.pos P x q).lev, (h.pos P x q).fld, (h.pos P x q).flr, (h.pos P x q).day, (h.pos P x q).tow⟩, h.inr, h.inj, h.acc0, h.rom0⟩
set_option maxHeartbeats 1000000 in
/-- one settles -/
theorem h_settle1 {n : Nat} {S : hS} {z : Z} {g : hG} {q u : List Ins} {L : Nat} {es : List (Ins × Bool)} (h : HZ S z g q u L es) (hO : okZ n z) {i : Ins} (hi : i ∈ q) : ∃ S', h_Qu_settle (g.xi i) S = some S' ∧ HZ S' (z.stl i) g (q.filter fun j => !(sameK i j)) u L (es ++ [(i, true)]) ∧ hX sI0 sL0 [] [] [] sQ S S' := by
  have hiz : i ∈ z.ins := ((h.Q.isq.2 i).mp hi).1
  have hwt : i.wt = true := ((h.Q.isq.2 i).mp hi).2
  have hI := h.Q.ins i hiz
  have hok := (hO.oki i hiz).n
  obtain ⟨ks, hN⟩ := hI.net
  obtain ⟨S1, m1, m2, m3⟩ := h_nets hok hN h.B.tab
  have hql : q.length ≤ z.ins.length := by
    have hq := h.Q.isq
    have nd : q.Nodup := List.nodup_iff_pairwise_ne.mpr (hq.1.imp fun {a b} (w : ahd a b) (e : a = b) => by rw [e] at w; exact ahd_ir w w)
    exact List.Nodup.length_le_of_subset nd (fun j hj => ((hq.2 j).mp hj).1)
  have hz250 := hO.ins
  have hfix := h.B.fix
  have k17 : S1.1[17]? = some (27, 250) := by rw [m3.sh]; exact fix_at hfix rfl
  have hjn : ∀ j ∈ q, g.xi i = g.xi j → i.who = j.who ∧ i.nm = j.nm := fun j hj e => h.Q.inj i hiz j ((h.Q.isq.2 j).mp hj).1 e
  obtain ⟨S2, t1, t2, t3⟩ := h_takeOut (x := g.xi i) (xs := q.map g.xi) (S := S1) (v0 := 17) (by rw [List.length_map]; omega) k17 (map_get.mp fun t j hj => (m3.eq _ (by simp) _).trans (h.Q.q t j hj))
  rw [filt_xi hjn, List.length_map, List.length_map] at t1
  rw [filt_xi hjn] at t2
  have w2 : hX [1101] [] [] [] [] [17] S1 (hpI S2 1101 16 (nI (q.filter fun j => !(sameK i j)).length)) := (t3.mono (by simp) (by simp) (by simp) (by simp) (by simp) (by simp)).pI (by decide)
  generalize hS3 : hpI S2 1101 16 (nI (q.filter fun j => !(sameK i j)).length) = S3 at w2
  have hto : S3.2.1 1105 16 = nI es.length := ((w2.ei _ (by decide) _).trans (m3.ei _ (by decide) _)).trans h.O.sz
  have hlen := h.O.len
  have hpos : 0 < z.ins.length := List.length_pos_of_mem hiz
  obtain ⟨S4, r1, r2, r3, r4, r5, r6, r7⟩ := h_end (S := S3) (x := g.xi i) (v := 2) hto (by omega)
  have s704 : S1.2.1 704 (g.xi i) = 1 := (m3.ei _ (by decide) _).trans (by rw [hI.st, hwt]; rfl)
  refine ⟨S4, ?_, ?_, ?_⟩
  · unfold h_Qu_settle
    rw [m1, Option.bind_some]
    unfold h_Qu_leave
    rw [if_neg (by simp), Option.bind_some, s704, if_neg (by simp), (m3.ei 1101 (by decide) 16).trans h.Q.qs, t1, Option.bind_some]
    show ((h_Qu_end (g.xi i) 2 (hpI S2 1101 16 (nI (q.filter fun j => !(sameK i j)).length))).bind fun q23 => some q23) = _
    rw [hS3, r1]; rfl
  · have W : hX sI0 sL0 [] [] [] sQ S S4 := ((m3.mono (by decide) (by decide) (by simp) (by simp) (by simp) (by simp)).tr (w2.mono (by decide) (by simp) (by simp) (by simp) (by simp) (by decide))).tr (r7.mono (by decide) (by simp) (by simp) (by simp) (by simp) (by decide))
    have hq27 : ∀ k ∈ sQ, hK S.1 k 27 := by
      intro k hk
      have : k = 17 ∨ k = 19 := by simpa using hk
      rcases this with rfl | rfl
      · exact ⟨250, fix_at hfix rfl⟩
      · exact ⟨250, fix_at hfix rfl⟩
    have hT4 : HT S4 (z.stl i) g.ad := ((m2.x w2 (by decide) (by decide)).x r7 (by decide) (by decide)).wIns _
    have s4 : ∀ y, y ≠ g.xi i → S4.2.1 704 y = S.2.1 704 y := fun y hy => (r4 y hy).trans ((w2.ei _ (by decide) _).trans (m3.ei _ (by decide) _))
    have hmem : ∀ j ∈ (z.stl i).ins, j ∈ z.ins ∧ g.xi j ≠ g.xi i := fun j hj => by
      have : j ∈ z.ins.filter fun j => !(sameK i j) := hj
      obtain ⟨a1, a2⟩ := List.mem_filter.mp this
      refine ⟨a1, fun c => ?_⟩
      have := sameK_iff.mpr (h.Q.inj i hiz j a1 c.symm)
      rw [this] at a2; cases a2
    refine ⟨h.B.x W hq27 (by decide) (by decide) (by simp) rfl hT4, ?_, ?_, ?_⟩
    · refine ⟨?_, ?_, ?_, ?_, ?_, ?_, isq.del h.Q.isq i, ?_⟩
      · refine (r7.ei _ (by decide) _).trans ?_
        rw [← hS3]; simp [hpI, up2]
      · intro t j hj
        refine (r7.eq _ (by decide) _).trans ?_
        rw [← hS3]
        exact (map_get (f := g.xi) (R := fun t b => S2.2.2.2.2.2.2 17 t = some b)).mpr t2 t j hj
      · exact (W.ei _ (by decide) _).trans h.Q.us
      · intro t j hj; exact (W.eq _ (by decide) _).trans (h.Q.u t j hj)
      · intro j hj
        obtain ⟨a1, a2⟩ := hmem j hj
        have hj0 := h.Q.ins j a1
        obtain ⟨kj, hkj⟩ := hj0.net
        refine (hj0.x W (by decide) (s4 _ a2) (by decide) (by simp) ⟨by simp, fun c => ?_, by simp⟩).eqv rfl rfl
        exact absurd ((hq27 _ c).un hkj.kc) (by decide)
      · intro a ha b hb e
        exact h.Q.inj a (hmem a ha).1 b (hmem b hb).1 e
      · rw [h.Q.isu]
        show _ = (z.ins.filter _).filter _
        rw [List.filter_filter]
        apply List.filter_congr
        intro j hj
        cases hw : j.wt with
        | true => rfl
        | false =>
          have : sameK i j = false := by
            cases hs : sameK i j with
            | false => rfl
            | true =>
              obtain ⟨e1, e2⟩ := sameK_iff.mp hs
              have := ins_eq hO.unq hiz hj e1 e2
              rw [← this, hwt] at hw; cases hw
          rw [this]; rfl
    · exact ((h.K.x m3 (by decide)).x w2 (by decide)).x r7 (by decide)
    · refine ⟨?_, ?_, ?_, ?_⟩
      · rw [r2, List.length_append, List.length_singleton]
      · intro j e he
        rw [List.getElem?_append] at he
        by_cases hj : j < es.length
        · rw [if_pos hj] at he
          obtain ⟨a1, a2, a3⟩ := h.O.row j e he
          have hne : g.xi e.1 ≠ g.xi i := h.O.dj e (List.mem_of_getElem? he) i hiz
          exact ⟨(r6 j (by omega)).trans (((w2.eq _ (by decide) _).trans (m3.eq _ (by simp) _)).trans a1), (s4 _ hne).trans a2, a3.x W (by decide) (by decide)⟩
        · rw [if_neg hj] at he
          have := get_lt' he
          rw [List.length_singleton] at this
          have hj0 : j - es.length = 0 := by omega
          rw [hj0] at he
          cases he
          have hj1 : j = es.length := by omega
          subst hj1
          exact ⟨r5, r3, hI.e.x W (by decide) (by decide)⟩
      · intro e he j hj
        obtain ⟨a1, a2⟩ := hmem j hj
        rcases List.mem_append.mp he with b | b
        · exact h.O.dj e b j a1
        · rw [List.mem_singleton.mp b]; exact fun c => a2 c.symm
      · have : (z.stl i).ins.length < z.ins.length := filter_lt hiz
        rw [List.length_append, List.length_singleton]
        omega
  · exact ((m3.mono (by decide) (by decide) (by simp) (by simp) (by simp) (by simp)).tr (w2.mono (by decide) (by simp) (by simp) (by simp) (by simp) (by decide))).tr (r7.mono (by decide) (by simp) (by simp) (by simp) (by simp) (by decide))
/-- the first that can settle -/
theorem h_first_loop {n : Nat} {z : Z} {g : hG} {q u : List Ins} {L : Nat} (hO : okZ n z) (hF : okF z) (hL : L < 2000000000) : ∀ (d fu j : Nat) (S : hS) (m : Nat → Bool), HB S z g → HQ S z g q u → HK S g.ad L → (∀ P y, g.ad P = some y → (S.2.1 1008 y = nI L ↔ m P = true)) → q.length ≤ 250 → q.length - j = d → d < fu → j ≤ q.length → ∃ S', hl_Qu_firstThatCanSettle_12 fu (nI j) S = some ((z.fst m (q.drop j)).map g.xi, S') ∧ HK S' g.ad L ∧ hX [1008] [] [] [] [] [] S S' := by
  intro d
  induction d with
  | zero =>
    intro fu j S m hB hQ hK hm hq hd hf hj
    obtain ⟨fu, rfl⟩ : ∃ f, fu = f + 1 := ⟨fu - 1, by omega⟩
    refine ⟨S, ?_, hK, hX.rf⟩
    unfold hl_Qu_firstThatCanSettle_12
    rw [hQ.qs, if_pos (nI_le0 (by omega) (by omega) (by omega)), List.drop_of_length_le (by omega)]; rfl
  | succ d ih =>
    intro fu j S m hB hQ hK hm hq hd hf hj
    obtain ⟨fu, rfl⟩ : ∃ f, fu = f + 1 := ⟨fu - 1, by omega⟩
    obtain ⟨i, hi⟩ := get_lt (ks := q) (j := j) (by omega)
    have hiz : i ∈ z.ins := ((hQ.isq.2 i).mp (List.mem_of_getElem? hi)).1
    have hI := hQ.ins i hiz
    have hok := (hO.oki i hiz).n
    obtain ⟨ks, hN⟩ := hI.net
    have hcan := h_can hN hB.tab hok hF hm
    unfold hl_Qu_firstThatCanSettle_12
    rw [hQ.qs, if_neg (nI_ngt (by omega) (by omega) (by omega)), ix_N (by omega) (by omega), Option.bind_some, hQ.q j i hi, Option.bind_some, hK.look, hcan, Option.bind_some, drop_cons hi]
    unfold Z.fst
    cases hc : z.can m i with
    | true =>
      rw [if_neg (by decide), if_pos rfl]
      exact ⟨S, rfl, hK, hX.rf⟩
    | false =>
      obtain ⟨S1, q1, q2, q3⟩ := h_mark hok hN hB.tab (nI L)
      have hK1 : HK S1 g.ad L := ⟨(q2.ei _ (by decide) _).trans hK.look, fun P y hy => by
        rw [q3 P y hy]
        by_cases ht : z.tks i P = true
        · rw [if_pos ht]; exact ⟨L, Nat.le_refl _, rfl⟩
        · rw [if_neg ht]; exact hK.mk P y hy⟩
      have hQ1 : HQ S1 z g q u := ⟨(q2.ei _ (by decide) _).trans hQ.qs, fun t a ha => (q2.eq _ (by simp) _).trans (hQ.q t a ha), (q2.ei _ (by decide) _).trans hQ.us, fun t a ha => (q2.eq _ (by simp) _).trans (hQ.u t a ha), fun a ha => (hQ.ins a ha).x q2 (by decide) (q2.ei _ (by decide) _) (by simp) (by simp) (by simp), hQ.inj, hQ.isq, hQ.isu⟩
      obtain ⟨S', p1, p2, p3⟩ := ih fu (j + 1) S1 (z.mrk m i) (hB.x q2 (by simp) (by decide) (by simp) (by simp) rfl (hB.tab.x q2 (by decide) (by simp))) hQ1 hK1 (fun P y hy => by
        rw [q3 P y hy]
        unfold Z.mrk
        rw [Bool.or_eq_true]
        by_cases ht : z.tks i P = true
        · rw [if_pos ht]; exact ⟨fun _ => Or.inr ht, fun _ => rfl⟩
        · rw [if_neg ht, hm P y hy]; exact ⟨Or.inl, fun c => c.resolve_right ht⟩) hq (by omega) (by omega) (by omega)
      refine ⟨S', ?_, p2, q2.tr p3⟩
      rw [if_pos (by decide), q1, Option.bind_some, nI_add1, p1, if_neg (by decide)]
theorem HQ.len {n : Nat} {S : hS} {z : Z} {g : hG} {q u : List Ins} (h : HQ S z g q u) (hO : okZ n z) : q.length ≤ z.ins.length ∧ q.length ≤ 250 := by
  have hq := h.isq
  have nd : q.Nodup := List.nodup_iff_pairwise_ne.mpr (hq.1.imp fun {a b} (w : ahd a b) (e : a = b) => by rw [e] at w; exact ahd_ir w w)
  have := List.Nodup.length_le_of_subset nd (fun j hj => ((hq.2 j).mp hj).1)
  have := hO.ins
  omega
theorem HQ.x {ki kl kr ka kb kq : List Nat} {S S' : hS} {z : Z} {g : hG} {q u : List Ins} (h : HQ S z g q u) (w : hX ki kl kr ka kb kq S S') (h1 : 1101 ∉ ki ∧ 1103 ∉ ki ∧ 700 ∉ ki ∧ 701 ∉ ki ∧ 703 ∉ ki ∧ 704 ∉ ki ∧ 707 ∉ ki ∧ 710 ∉ ki) (h2 : 702 ∉ kl) (h3 : 706 ∉ kr ∧ 708 ∉ kr ∧ 709 ∉ kr) (h4 : ka = []) (h5 : kb = []) (h6 : kq = []) : HQ S' z g q u := by
  subst h4 h5 h6
  exact ⟨(w.ei _ h1.1 _).trans h.qs, fun t a ha => (w.eq _ (by simp) _).trans (h.q t a ha), (w.ei _ h1.2.1 _).trans h.us, fun t a ha => (w.eq _ (by simp) _).trans (h.u t a ha), fun a ha => (h.ins a ha).x w ⟨h1.2.2.1, h1.2.2.2.1, h1.2.2.2.2.1, h1.2.2.2.2.2.2.1, h1.2.2.2.2.2.2.2⟩ (w.ei _ h1.2.2.2.2.2.1 _) h2 h3 ⟨by simp, by simp, by simp⟩, h.inj, h.isq, h.isu⟩
theorem HO.x {ki kl kr ka kb kq : List Nat} {S S' : hS} {z : Z} {g : hG} {es : List (Ins × Bool)} (h : HO S z g es) (w : hX ki kl kr ka kb kq S S') (h1 : 1105 ∉ ki ∧ 704 ∉ ki ∧ 701 ∉ ki) (h2 : 702 ∉ kl) (h3 : 19 ∉ kq) : HO S' z g es :=
  ⟨(w.ei _ h1.1 _).trans h.sz, fun j e he => ⟨(w.eq _ h3 _).trans (h.row j e he).1, (w.ei _ h1.2.1 _).trans (h.row j e he).2.1, (h.row j e he).2.2.x w h1.2.2 h2⟩, h.dj, h.len⟩
/-- a new look: nothing is marked -/
theorem HK.next {S : hS} {ad : Nat → Option Nat} {L : Nat} (h : HK S ad L) (hL : L < 2000000000) : HK (hpI S 1106 16 (S.2.1 1106 16 + 1)) ad (L + 1) ∧ (∀ P y, ad P = some y → ((hpI S 1106 16 (S.2.1 1106 16 + 1)).2.1 1008 y = nI (L + 1) ↔ (fun _ => false : Nat → Bool) P = true)) ∧ hX [1106] [] [] [] [] [] S (hpI S 1106 16 (S.2.1 1106 16 + 1)) := by
  have e : ∀ y, (hpI S 1106 16 (S.2.1 1106 16 + 1)).2.1 1008 y = S.2.1 1008 y := fun y => by simp [hpI, up2]
  refine ⟨⟨?_, fun P y hy => ?_⟩, fun P y hy => ?_, hX.rf.pI (by decide)⟩
  · rw [h.look, nI_add1]; simp [hpI, up2]
  · obtain ⟨v, a, b⟩ := h.mk P y hy
    exact ⟨v, by omega, (e y).trans b⟩
  · rw [e y]
    obtain ⟨v, a, b⟩ := h.mk P y hy
    rw [b]
    refine ⟨fun c => ?_, fun c => by cases c⟩
    have := nI_inj (by omega) (by omega) c
    omega
theorem h_first {n : Nat} {S : hS} {z : Z} {g : hG} {q u : List Ins} {L : Nat} {es : List (Ins × Bool)} (h : HZ S z g q u L es) (hO : okZ n z) (hF : okF z) (hL : L < 1999999999) : ∃ S', h_Qu_firstThatCanSettle S = some ((z.fst (fun _ => false) q).map g.xi, S') ∧ HZ S' z g q u (L + 1) es ∧ hX sI sL [] [] [] sQ S S' := by
  obtain ⟨k1, k2, k3⟩ := h.K.next (by omega)
  have hl := h.Q.len hO
  obtain ⟨S', p1, p2, p3⟩ := h_first_loop hO hF (by omega) _ 100000 0 _ (fun _ => false) (h.B.x k3 (by simp) (by decide) (by simp) (by simp) rfl (h.B.tab.x k3 (by decide) (by simp))) (h.Q.x k3 (by decide) (by simp) (by simp) rfl rfl rfl) k1 k2 hl.2 rfl (by omega) (by omega)
  rw [List.drop_zero] at p1
  have W : hX [1106, 1008] [] [] [] [] [] S S' := (k3.mono (by decide) (by simp) (by simp) (by simp) (by simp) (by simp)).tr (p3.mono (by decide) (by simp) (by simp) (by simp) (by simp) (by simp))
  exact ⟨S', p1, ⟨h.B.x W (by simp) (by decide) (by simp) (by simp) rfl (h.B.tab.x W (by decide) (by simp)), h.Q.x W (by decide) (by simp) (by simp) rfl rfl rfl, p2, h.O.x W (by decide) (by simp) (by simp)⟩, W.mono (by decide) (by simp) (by simp) (by simp) (by simp) (by simp)⟩
def tld (es : List Ins) : List (Ins × Bool) := es.map fun i => (i, true)
theorem h_settleAll_loop {n : Nat} (hn : n ≤ 512) {g : hG} {u : List Ins} : ∀ (m fu c : Nat) (S : hS) (z : Z) (q : List Ins) (L : Nat) (es : List (Ins × Bool)), HZ S z g q u L es → okZ n z → q.length ≤ m → c + m ≤ 250 → m < fu → L + m + 1 < 1999999999 → ∃ S' L', hl_Qu_settleAllThatCan_2 fu (nI c) S = some S' ∧ HZ S' (setl m z q).1 g (setl m z q).2.1 u L' (es ++ tld (setl m z q).2.2) ∧ L ≤ L' ∧ L' ≤ L + m + 1 ∧ hX sI sL [] [] [] sQ S S' := by
  intro m
  induction m with
  | zero =>
    intro fu c S z q L es h hO hq hc hf hL
    obtain ⟨fu, rfl⟩ : ∃ f, fu = f + 1 := ⟨fu - 1, by omega⟩
    obtain ⟨S', p1, p2, p3⟩ := h_first h hO (hO.f hn) (by omega)
    have hq0 : q = [] := List.length_eq_zero_iff.mp (by omega)
    subst hq0
    refine ⟨S', L + 1, ?_, ?_, by omega, by omega, p3⟩
    · unfold hl_Qu_settleAllThatCan_2
      rw [if_neg (fun w => by have := (nI_lt' (a := 250) (b := c) (by omega) (by omega)).mp w; omega), p1, Option.bind_some]
      rfl
    · show HZ S' z g [] u (L + 1) (es ++ [])
      rw [List.append_nil]; exact p2
  | succ m ih =>
    intro fu c S z q L es h hO hq hc hf hL
    obtain ⟨fu, rfl⟩ : ∃ f, fu = f + 1 := ⟨fu - 1, by omega⟩
    obtain ⟨S1, p1, p2, p3⟩ := h_first h hO (hO.f hn) (by omega)
    unfold hl_Qu_settleAllThatCan_2
    rw [if_neg (fun w => by have := (nI_lt' (a := 250) (b := c) (by omega) (by omega)).mp w; omega), p1, Option.bind_some]
    cases hf1 : z.fst (fun _ => false) q with
    | none =>
      rw [setl_none hf1]
      refine ⟨S1, L + 1, rfl, ?_, by omega, by omega, p3⟩
      show HZ S1 z g q u (L + 1) (es ++ [])
      rw [List.append_nil]; exact p2
    | some i =>
      rw [setl_some hf1]
      have hi := (fst_mem hf1).1
      obtain ⟨S2, r1, r2, r3⟩ := h_settle1 p2 hO hi
      have hlt := filter_lt hi
      obtain ⟨S', L', t1, t2, t3, t4, t5⟩ := ih fu (c + 1) S2 (z.stl i) _ (L + 1) _ r2 (hO.stl ((h.Q.isq.2 i).mp hi).1) (by omega) (by omega) (by omega) (by omega)
      refine ⟨S', L', ?_, ?_, by omega, by omega, (p3.tr (r3.mono (by decide) (by decide) (by simp) (by simp) (by simp) (by simp))).tr t5⟩
      · show (if (some (g.xi i)) = none then (some S1) else ((some (g.xi i)).bind fun b14 => ((h_Qu_settle b14 S1).bind fun q18 => (hl_Qu_settleAllThatCan_2 fu (nI c + 1) q18)))) = _
        rw [if_neg (by simp), Option.bind_some, r1, Option.bind_some, nI_add1, t1]
      · rw [List.append_assoc] at t2
        exact t2
/-- all settle that can -/
theorem h_settleAll {n : Nat} (hn : n ≤ 512) {S : hS} {z : Z} {g : hG} {q u : List Ins} {L : Nat} {es : List (Ins × Bool)} (h : HZ S z g q u L es) (hO : okZ n z) (hL : L < 1999999000) : ∃ S' L', h_Qu_settleAllThatCan S = some S' ∧ HZ S' (setl 250 z q).1 g (setl 250 z q).2.1 u L' (es ++ tld (setl 250 z q).2.2) ∧ L ≤ L' ∧ L' ≤ L + 251 ∧ hX sI sL [] [] [] sQ S S' := by
  have hl := h.Q.len hO
  obtain ⟨S', L', p1, p2, p3, p4, p5⟩ := h_settleAll_loop hn 250 100000 0 S z q L es h hO (by omega) (by omega) (by omega) (by omega)
  exact ⟨S', L', p1, p2, p3, p4, p5⟩
