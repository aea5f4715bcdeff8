/-! The class opens an instruction. -/
/-- only new cells -/
def NW (S S' : hS) : Prop := (hE S.1 S'.1) ∧ (∀ k a, a < S.1.length → S'.2.1 k a = S.2.1 k a) ∧ (∀ k a, a < S.1.length → S'.2.2.1 k a = S.2.2.1 k a) ∧ (∀ k a, a < S.1.length → S'.2.2.2.1 k a = S.2.2.2.1 k a) ∧ (∀ a, a < S.1.length → S'.2.2.2.2.1 a = S.2.2.2.2.1 a) ∧ (∀ a, a < S.1.length → S'.2.2.2.2.2.1 a = S.2.2.2.2.2.1 a) ∧ (∀ a, a < S.1.length → S'.2.2.2.2.2.2 a = S.2.2.2.2.2.2 a)
theorem NW.sh {S S' : hS} (h : NW S S') : hE S.1 S'.1 := h.1
theorem NW.i {S S' : hS} (h : NW S S') : ∀ k a, a < S.1.length → S'.2.1 k a = S.2.1 k a := h.2.1
theorem NW.l {S S' : hS} (h : NW S S') : ∀ k a, a < S.1.length → S'.2.2.1 k a = S.2.2.1 k a := h.2.2.1
theorem NW.r {S S' : hS} (h : NW S S') : ∀ k a, a < S.1.length → S'.2.2.2.1 k a = S.2.2.2.1 k a := h.2.2.2.1
theorem NW.a {S S' : hS} (h : NW S S') : ∀ a, a < S.1.length → S'.2.2.2.2.1 a = S.2.2.2.2.1 a := h.2.2.2.2.1
theorem NW.b {S S' : hS} (h : NW S S') : ∀ a, a < S.1.length → S'.2.2.2.2.2.1 a = S.2.2.2.2.2.1 a := h.2.2.2.2.2.1
theorem NW.q {S S' : hS} (h : NW S S') : ∀ a, a < S.1.length → S'.2.2.2.2.2.2 a = S.2.2.2.2.2.2 a := h.2.2.2.2.2.2
theorem NW.rf {S : hS} : NW S S := ⟨hE.rf, fun _ _ _ => rfl, fun _ _ _ => rfl, fun _ _ _ => rfl, fun _ _ => rfl, fun _ _ => rfl, fun _ _ => rfl⟩
theorem NW.new {S S' : hS} (h : NW S S') (kd n : Nat) : NW S (hNew S' kd n) := by
  have hl := h.sh.len
  exact ⟨h.sh.tr (hNew_E S' kd n), fun k a ha => (nw1_ne (by omega)).trans (h.i k a ha), fun k a ha => (nw1_ne (by omega)).trans (h.l k a ha), fun k a ha => (nw1_ne (by omega)).trans (h.r k a ha), fun a ha => (nw2_ne (by omega)).trans (h.a a ha), fun a ha => (nw2_ne (by omega)).trans (h.b a ha), fun a ha => (nw2_ne (by omega)).trans (h.q a ha)⟩
theorem NW.pI {S S' : hS} (h : NW S S') {k a : Nat} {v : Int32} (ha : S.1.length ≤ a) : NW S (hpI S' k a v) := ⟨h.sh, fun k' a' h' => (up2_na (by omega)).trans (h.i k' a' h'), h.l, h.r, h.a, h.b, h.q⟩
theorem NW.pL {S S' : hS} (h : NW S S') {k a : Nat} {v : Int64} (ha : S.1.length ≤ a) : NW S (hpL S' k a v) := ⟨h.sh, h.i, fun k' a' h' => (up2_na (by omega)).trans (h.l k' a' h'), h.r, h.a, h.b, h.q⟩
theorem NW.pR {S S' : hS} (h : NW S S') {k a : Nat} {v : Option Nat} (ha : S.1.length ≤ a) : NW S (hpR S' k a v) := ⟨h.sh, h.i, h.l, fun k' a' h' => (up2_na (by omega)).trans (h.r k' a' h'), h.a, h.b, h.q⟩
theorem NW.bf {S S' : hS} (h : NW S S') : BF S S' := ⟨h.sh, fun k a _ ha => h.i k a ha, fun k a _ ha => h.l k a ha, fun k a _ ha => h.r k a ha, h.a, h.b, fun a ha _ => h.q a ha⟩
theorem NW.gr {S S' : hS} {z : Z} {g : hG} (w : NW S S') (h : HB S z g) : GR S S' z g g := by
  refine ⟨w.bf, fun k a _ ha => w.i k a ha, w.l, fun k a _ ha => w.r k a ha, ⟨w.q 11 (fix_lt h.fix (by decide)), w.q 12 (fix_lt h.fix (by decide))⟩, fun p hp a ha => ?_, fun p hp => ?_, fun p q e hp hq a b hne => ?_, fun _ _ q => q, fun _ _ q => Or.inl q, fun P Q y a b c _ => (by rw [a] at c; cases c), rfl⟩
  · obtain ⟨c, _, hM⟩ := h.p hp
    rw [w.q _ (len_get hM.ack)]; exact hM.acc a ha
  · obtain ⟨c, _, hM⟩ := h.p hp
    have hd := len_get hM.rlk
    exact hM.rom.f w.sh (w.r _ _ hd) (w.i _ _ hd) (fun e _ he => w.q e he.lt) (fun _ _ => rfl)
  · obtain ⟨c, _, hM⟩ := h.p hp
    obtain ⟨c', _, hM'⟩ := h.p hq
    rw [w.r _ _ (len_get hM.rlk)] at a
    rw [w.r _ _ (len_get hM'.rlk)] at b
    exact h.rin p q e hp hq a b hne
theorem h_init {S : hS} {z : Z} {g : hG} (hB : HB S z g) {i : Ins} (hlen : S.1.length + 4 < am_M) (hm : i.legs.length ≤ 4) (e812 : S.2.1 812 2 = nI i.legs.length) (e813 : S.2.1 813 2 = nI i.who) (e805 : S.2.1 805 2 = nI (b36 (z.mem.getD i.who []))) (e806 : S.2.2.1 806 2 = lI (b36 i.nm : Nat)) (e817 : S.2.1 817 2 = nI i.pr) : ∃ S', h_In_init S.1.length ((hNew S 7 0).2.1 812 2) (hNew S 7 0) = some S' ∧ PG S S' z g g S.1.length i [] [] ∧ NR S' g.ad S.1.length i.legs.length [] (fun _ => 0) ∧ S'.1.length = S.1.length + 4 := by
  have h2 : 2 < S.1.length := fix_lt hB.fix (by decide)
  obtain ⟨x, hx⟩ : ∃ x, x = S.1.length := ⟨_, rfl⟩
  rw [← hx]
  have c812 : (hNew S 7 0).2.1 812 2 = nI i.legs.length := (nw1_ne (by omega)).trans e812
  have c813 : (hNew S 7 0).2.1 813 2 = nI i.who := (nw1_ne (by omega)).trans e813
  have c805 : (hNew S 7 0).2.1 805 2 = nI (b36 (z.mem.getD i.who [])) := (nw1_ne (by omega)).trans e805
  have c806 : (hNew S 7 0).2.2.1 806 2 = lI (b36 i.nm : Nat) := (nw1_ne (by omega)).trans e806
  have c817 : (hNew S 7 0).2.1 817 2 = nI i.pr := (nw1_ne (by omega)).trans e817
  obtain ⟨T0, hT0⟩ : ∃ T0, T0 = hNew S 7 0 := ⟨_, rfl⟩
  obtain ⟨T1, hT1⟩ : ∃ T1, T1 = hpI (hpL (hpI (hpI (hpI T0 704 x 0) 700 x (nI i.who)) 701 x (nI (b36 (z.mem.getD i.who [])))) 702 x (lI (b36 i.nm : Nat))) 703 x (nI i.pr) := ⟨_, rfl⟩
  obtain ⟨T2, hT2⟩ : ∃ T2, T2 = hpR (hNew T1 20 i.legs.length) 706 x (some (x + 1)) := ⟨_, rfl⟩
  obtain ⟨T3, hT3⟩ : ∃ T3, T3 = hpR (hNew T2 26 (4 * i.legs.length)) 708 x (some (x + 2)) := ⟨_, rfl⟩
  obtain ⟨T4, hT4⟩ : ∃ T4, T4 = hpR (hNew T3 21 (4 * i.legs.length)) 709 x (some (x + 3)) := ⟨_, rfl⟩
  have s1 : T1.1 = S.1 ++ [(7, 0)] := by rw [hT1, hT0]; rfl
  have s2 : T2.1 = T1.1 ++ [(20, i.legs.length)] := by rw [hT2]; rfl
  have s3 : T3.1 = T2.1 ++ [(26, 4 * i.legs.length)] := by rw [hT3]; rfl
  have s4 : T4.1 = T3.1 ++ [(21, 4 * i.legs.length)] := by rw [hT4]; rfl
  have l1 : T1.1.length = x + 1 := by rw [s1, List.length_append, List.length_singleton, hx]
  have l2 : T2.1.length = x + 2 := by rw [s2, List.length_append, List.length_singleton, l1]
  have l3 : T3.1.length = x + 3 := by rw [s3, List.length_append, List.length_singleton, l2]
  have l4 : T4.1.length = x + 4 := by rw [s4, List.length_append, List.length_singleton, l3]
  have nw : NW S T4 := by
    have n1 : NW S T1 := by
      rw [hT1, hT0]
      exact (((((NW.rf.new 7 0).pI (by omega)).pI (by omega)).pI (by omega)).pL (by omega)).pI (by omega)
    have n2 : NW S T2 := by rw [hT2]; exact (n1.new _ _).pR (by omega)
    have n3 : NW S T3 := by rw [hT3]; exact (n2.new _ _).pR (by omega)
    rw [hT4]; exact (n3.new _ _).pR (by omega)
  have i4 : ∀ k, T4.2.1 k x = T1.2.1 k x := fun k => by
    have a4 : T4.2.1 k x = T3.2.1 k x := by rw [hT4]; exact nw1_ne (by omega)
    have a3 : T3.2.1 k x = T2.2.1 k x := by rw [hT3]; exact nw1_ne (by omega)
    have a2 : T2.2.1 k x = T1.2.1 k x := by rw [hT2]; exact nw1_ne (by omega)
    rw [a4, a3, a2]
  have j4 : ∀ k, T4.2.2.1 k x = T1.2.2.1 k x := fun k => by
    have a4 : T4.2.2.1 k x = T3.2.2.1 k x := by rw [hT4]; exact nw1_ne (by omega)
    have a3 : T3.2.2.1 k x = T2.2.2.1 k x := by rw [hT3]; exact nw1_ne (by omega)
    have a2 : T2.2.2.1 k x = T1.2.2.1 k x := by rw [hT2]; exact nw1_ne (by omega)
    rw [a4, a3, a2]
  have t0 : ∀ k, T0.2.1 k x = 0 := fun k => by rw [hT0, hx]; exact nw1_eq
  have r2 : T2.2.2.2.1 706 x = some (x + 1) := by rw [hT2]; simp [hpR, up2]
  have r3 : T3.2.2.2.1 708 x = some (x + 2) := by rw [hT3]; simp [hpR, up2]
  have r4 : T4.2.2.2.1 709 x = some (x + 3) := by rw [hT4]; simp [hpR, up2]
  have r3' : ∀ k, k ≠ 708 → T3.2.2.2.1 k x = T2.2.2.2.1 k x := fun k hk => by
    rw [hT3]; exact (up2_ne (fun q => hk q.1)).trans (nw1_ne (by omega))
  have r4' : ∀ k, k ≠ 709 → T4.2.2.2.1 k x = T3.2.2.2.1 k x := fun k hk => by
    rw [hT4]; exact (up2_ne (fun q => hk q.1)).trans (nw1_ne (by omega))
  have k0 : T4.1[x]? = some (7, 0) := by
    rw [s4, s3, s2, s1, hx]; simp
  have k1 : T4.1[x + 1]? = some (20, i.legs.length) := by
    rw [s4, List.getElem?_append_left (by omega), s3, List.getElem?_append_left (by omega), s2, List.getElem?_append_right (by omega), l1, Nat.sub_self]; rfl
  have k2 : T4.1[x + 2]? = some (26, 4 * i.legs.length) := by
    rw [s4, List.getElem?_append_left (by omega), s3, List.getElem?_append_right (by omega), l2, Nat.sub_self]; rfl
  have k3 : T4.1[x + 3]? = some (21, 4 * i.legs.length) := by
    rw [s4, List.getElem?_append_right (by omega), l3, Nat.sub_self]; rfl
  have gr := nw.gr hB
  refine ⟨T4, ?_, ⟨nw.bf, gr.hb hB, fun _ _ q => q, fun _ _ q => Or.inl q, rfl, hx, ⟨k0, ?_, ?_⟩, ?_, ?_, ?_, ?_, k1, ?_, ?_, ?_, ?_, ?_⟩, ⟨?_, k2, ?_, k3, ?_, ?_, ?_, ?_⟩, l4⟩
  · unfold h_In_init
    have m4 : nI i.legs.length * 4 = nI (4 * i.legs.length) := by rw [Nat.mul_comm]; exact nI_mul _ 4
    rw [c812, c813, c805, c806, c817, m4, hs_nl_n (by omega) (by omega), Option.bind_some, ← hT0, ← hT1, show hs_al T1 = some (x + 1) by unfold hs_al; rw [l1, if_pos (by omega)], Option.bind_some, hs_nl_n (by omega) (by omega), Option.bind_some, ← hT2, show hs_al T2 = some (x + 2) by unfold hs_al; rw [l2, if_pos (by omega)], Option.bind_some, Option.bind_some, ← hT3, show hs_al T3 = some (x + 3) by unfold hs_al; rw [l3, if_pos (by omega)], Option.bind_some, ← hT4]
  · rw [i4, hT1]; simp [hpI, hpL, up2]
  · rw [j4, hT1]; simp [hpI, hpL, up2]
  · rw [i4, hT1]; simp [hpI, hpL, up2]
  · rw [i4, hT1]; simp [hpI, hpL, up2]
  · rw [i4, hT1]; simp [hpI, hpL, up2]
  · rw [r4' _ (by decide), r3' _ (by decide), r2]
  · rw [i4, hT1]
    refine Eq.trans ?_ (t0 707)
    simp [hpI, hpL, up2]
  · exact Nat.zero_le _
  · exact List.nodup_nil
  · intro j v hj; simp at hj
  · intro v; simp
  · rw [r4' _ (by decide), r3]
  · exact r4
  · rw [i4, hT1]
    refine Eq.trans ?_ (t0 710)
    simp [hpI, hpL, up2]
  · exact List.nodup_nil
  · intro j v hj; simp at hj
  · intro P _; rfl
/-- the instruction of that name is at x -/
def hG.put (g : hG) (w : Nat) (nm : List Nat) (x : Nat) : hG := (g.1, fun w' nm' => if w' = w ∧ nm' = nm then x else g.2.1 w' nm', g.2.2)
theorem put_ad (g : hG) (w : Nat) (nm : List Nat) (x : Nat) : (g.put w nm x).ad = g.ad := rfl
theorem put_at (g : hG) (i : Ins) (x : Nat) : (g.put i.who i.nm x).xi i = x := if_pos ⟨rfl, rfl⟩
theorem put_ne (g : hG) (i j : Ins) (x : Nat) (h : ¬ (j.who = i.who ∧ j.nm = i.nm)) : (g.put i.who i.nm x).xi j = g.xi j := if_neg h
theorem HB.put {S : hS} {z : Z} {g : hG} (h : HB S z g) (w : Nat) (nm : List Nat) (x : Nat) : HB S z (g.put w nm x) := ⟨h.fix, h.tab, h.mem, fun p c hp => by
  have hM := h.par p c hp
  exact ⟨hM.at, hM.k, hM.cod, hM.bnk, hM.crd, hM.acr, hM.ack, hM.acc, hM.rlr, hM.rlk, hM.rom⟩, h.pin, h.rin, h.asn, fun a y hy => by
  have hA := h.ast a y hy
  exact ⟨hA.at, hA.k, hA.cod, hA.sec, hA.prc, hA.cut⟩, h.ain, h.fir, h.lims, h.all⟩
theorem HZ.put {S : hS} {z : Z} {g : hG} {q u : List Ins} {L : Nat} (h : HZ S z g q u L []) {i : Ins} (x : Nat) (hn : ∀ j ∈ z.ins, ¬ (j.who = i.who ∧ j.nm = i.nm)) : HZ S z (g.put i.who i.nm x) q u L [] := by
  have e : ∀ j ∈ z.ins, (g.put i.who i.nm x).xi j = g.xi j := fun j hj => put_ne g i j x (hn j hj)
  have qz : ∀ j ∈ q, j ∈ z.ins := fun j hj => ((h.Q.isq.2 j).mp hj).1
  have uz : ∀ j ∈ u, j ∈ z.ins := fun j hj => by rw [h.Q.isu, List.mem_filter] at hj; exact hj.1
  refine ⟨h.B.put _ _ _, ⟨h.Q.qs, fun t j hj => ?_, h.Q.us, fun t j hj => ?_, fun j hj => ?_, fun a ha b hb c => ?_, h.Q.isq, h.Q.isu⟩, h.K, ⟨h.O.sz, fun t e he => by simp at he, fun e he => by simp at he, h.O.len⟩⟩
  · rw [e j (qz j (List.mem_of_getElem? hj))]; exact h.Q.q t j hj
  · rw [e j (uz j (List.mem_of_getElem? hj))]; exact h.Q.u t j hj
  · rw [e j hj]; exact h.Q.ins j hj
  · rw [e a ha, e b hb] at c
    exact h.Q.inj a ha b hb c
/-- all is built: it may come -/
theorem h_pay0 {n : Nat} {S : hS} {z : Z} {g : hG} {q u : List Ins} {L : Nat} (h : HZ S z g q u L []) (hO : okZ n z) {i : Ins} (hw : i.who < z.mem.length) (hag : i.ag = [i.who]) (hlg : ∀ l ∈ i.legs, okL z l) (hm : i.legs.length ≤ 4) (hn : ∀ j ∈ z.ins, ¬ (j.who = i.who ∧ j.nm = i.nm)) (hLG : LG S i.legs) (e812 : S.2.1 812 2 = nI i.legs.length) (e813 : S.2.1 813 2 = nI i.who) (e805 : S.2.1 805 2 = nI (b36 (z.mem.getD i.who []))) (e806 : S.2.2.1 806 2 = lI (b36 i.nm : Nat)) (e817 : S.2.1 817 2 = nI i.pr) (hlen : S.1.length + 28 < am_M) : ∃ S1 g1, (h_De_pay S = (h_Qu_come S.1.length S1).bind fun q40 => some (S.1.length, q40)) ∧ HZ S1 z g1 q u L [] ∧ CI S1 z g1 [] i ∧ g1.xi i = S.1.length ∧ S1.2.1 704 S.1.length = 0 ∧ g1.2.2 = g.2.2 ∧ BF S S1 ∧ S1.1.length ≤ S.1.length + 28 := by
  have hm' := hO.mem
  obtain ⟨T, a1, a2, a3, a4⟩ := h_init (i := i) h.B (by omega) hm e812 e813 e805 e806 e817
  obtain ⟨S1, g1, ks, ws, b1, b2, b3, b4, b5, b6⟩ := h_legs hO.x h.B.fix hLG e812 hlg hm (by omega) _ 5 0 T g [] [] rfl (by omega) (by omega) a2 (a3.eqv (fun P => rfl)) (by simp) (by simp) (by omega)
  have hz1 : HZ S1 z g1 q u L [] := h.b b2.bf b2.b b2.ext b2.new (by rw [b2.gg]) rfl (fun _ _ => rfl) (fun _ _ => ⟨rfl, fun _ => rfl⟩) (fun j hj => (hO.oki j hj).who) (by simp)
  have hxj : ∀ j ∈ z.ins, S.1.length ≠ g.xi j := fun j hj c => by
    have := len_get (h.Q.ins j hj).e.k
    omega
  obtain ⟨c1, c2, c3, c4, c5⟩ := b2.aw
  refine ⟨S1, g1.put i.who i.nm S.1.length, ?_, hz1.put _ hn, ?_, put_at _ _ _, b2.st, by show g1.2.2 = _; rw [b2.gg], b2.bf, by omega⟩
  · unfold h_De_pay
    rw [show hs_al S = some S.1.length from if_pos (by omega), Option.bind_some, a1, Option.bind_some]
    have : hl_De_pay_15 5 S.1.length 0 T = some S1 := b1
    rw [this, Option.bind_some]
  · unfold CI
    rw [put_at]
    refine ⟨b2.e, b2.who, b2.pr, ⟨ks, b3.rc, b3.kc, b3.rd, b3.kd, b3.sz, b4, b3.nd, b3.row, b5⟩, ⟨ws, b2.rw, b2.kw, c1, c2, c3, c4, fun v => ?_⟩, fun j hj => ?_, by simp⟩
    · rw [c5 v, hag, List.mem_singleton]
    · rw [put_ne _ _ _ _ (hn j hj)]
      have : g1.xi j = g.xi j := by unfold hG.xi; rw [b2.gg]
      rw [this]; exact hxj j hj
/-- it comes, and waits -/
theorem h_payW {n : Nat} {S : hS} {z : Z} {g : hG} {q u : List Ins} {L : Nat} (h : HZ S z g q u L []) (hO : okZ n z) {i : Ins} (hw : i.who < z.mem.length) (hag : i.ag = [i.who]) (hlg : ∀ l ∈ i.legs, okL z l) (hm : i.legs.length ≤ 4) (hn : ∀ j ∈ z.ins, ¬ (j.who = i.who ∧ j.nm = i.nm)) (hLG : LG S i.legs) (e812 : S.2.1 812 2 = nI i.legs.length) (e813 : S.2.1 813 2 = nI i.who) (e805 : S.2.1 805 2 = nI (b36 (z.mem.getD i.who []))) (e806 : S.2.2.1 806 2 = lI (b36 i.nm : Nat)) (e817 : S.2.1 817 2 = nI i.pr) (hlen : S.1.length + 28 < am_M) (hpr : i.pr < 10) (hl : z.ins.length < 250) (hwt : i.wt = true) (htn : ∀ j ∈ z.ins, j.tn < i.tn) (T : Nat) : ∃ S1 S' g' q', h_De_pay S = some (S.1.length, S') ∧ HZ S' (z.wIT (z.ins ++ [i]) T) g' q' u L [] ∧ g'.xi i = S.1.length ∧ g'.2.2 = g.2.2 ∧ BF S S1 ∧ hX [704, 1101] [] [] [] [] [17] S1 S' ∧ S'.1.length ≤ S.1.length + 28 := by
  obtain ⟨S1, g1, a1, a2, a3, a4, a5, a6, a7, a8⟩ := h_pay0 h hO hw hag hlg hm hn hLG e812 e813 e805 e806 e817 hlen
  obtain ⟨ws, hW⟩ := a3.awt
  have hws : ws = [] := List.eq_nil_iff_forall_not_mem.mpr fun v hv => by
    obtain ⟨⟨l, hl1, hl2⟩, h2⟩ := (hW.mem v).mp hv
    have := List.all_eq_true.mp hwt l hl1
    rw [hl2] at this
    exact h2 (by simpa using this)
  have h707 : S1.2.1 707 (g1.xi i) = 0 := by rw [hW.sz, hws]; rfl
  obtain ⟨S', q', b1, b2, b3⟩ := h_comeW a2 hO.q a3 hwt h707 hpr htn (by simpa using hl) (I' := z.ins ++ [i]) (T := T) (fun j => by rw [List.mem_append, List.mem_singleton]) (by rw [List.filter_append, List.filter_cons_of_neg (by rw [hwt]; decide), List.filter_nil, List.append_nil]) (by rw [List.length_append, List.length_singleton])
  rw [a4] at b1
  refine ⟨S1, S', g1, q', by rw [a1, b1, Option.bind_some], b2, a4, a6, a7, b3, by rw [b3.sh]; exact a8⟩
/-- it comes, and is to be confirmed -/
theorem h_payU {n : Nat} {S : hS} {z : Z} {g : hG} {q u : List Ins} {L : Nat} (h : HZ S z g q u L []) (hO : okZ n z) {i : Ins} (hw : i.who < z.mem.length) (hag : i.ag = [i.who]) (hlg : ∀ l ∈ i.legs, okL z l) (hm : i.legs.length ≤ 4) (hn : ∀ j ∈ z.ins, ¬ (j.who = i.who ∧ j.nm = i.nm)) (hLG : LG S i.legs) (e812 : S.2.1 812 2 = nI i.legs.length) (e813 : S.2.1 813 2 = nI i.who) (e805 : S.2.1 805 2 = nI (b36 (z.mem.getD i.who []))) (e806 : S.2.2.1 806 2 = lI (b36 i.nm : Nat)) (e817 : S.2.1 817 2 = nI i.pr) (hlen : S.1.length + 28 < am_M) (hl : z.ins.length < 250) (hwt : i.wt = false) : ∃ S1 S' g', h_De_pay S = some (S.1.length, S') ∧ HZ S' (z.wIns (z.ins ++ [i])) g' q (u ++ [i]) L [] ∧ g'.xi i = S.1.length ∧ g'.2.2 = g.2.2 ∧ BF S S1 ∧ hX [1103] [] [] [] [] [18] S1 S' ∧ S'.1.length ≤ S.1.length + 28 := by
  obtain ⟨S1, g1, a1, a2, a3, a4, a5, a6, a7, a8⟩ := h_pay0 h hO hw hag hlg hm hn hLG e812 e813 e805 e806 e817 hlen
  obtain ⟨ws, hW⟩ := a3.awt
  have hle := hW.le
  obtain ⟨l, hl1, hl2⟩ := List.all_eq_false.mp hwt
  have hmem : l.f ∈ ws := (hW.mem l.f).mpr ⟨⟨l, hl1, rfl⟩, fun c => hl2 (by simpa using c)⟩
  have hpos := List.length_pos_of_mem hmem
  obtain ⟨c, hc⟩ : ∃ c, ws.length = c + 1 := ⟨ws.length - 1, by omega⟩
  have h707 : S1.2.1 707 (g1.xi i) = nI (c + 1) := by rw [hW.sz, hc]
  obtain ⟨S', b1, b2, b3⟩ := h_comeU a2 hO.q a3 hwt (by rw [a4]; exact a5) h707 (by omega) (by simpa using hl)
  rw [a4] at b1
  exact ⟨S1, S', g1, by rw [a1, b1, Option.bind_some], b2, a4, a6, a7, b3, by rw [b3.sh]; exact a8⟩
