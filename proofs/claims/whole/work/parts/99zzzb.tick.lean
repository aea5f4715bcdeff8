/-! Time passes: the house. -/
def Z.wTk (z : Z) (T : Nat) : Z := ((z.1.1, z.1.2.1, z.1.2.2.1, z.1.2.2.2.1, z.1.2.2.2.2.1, z.1.2.2.2.2.2.1, z.1.2.2.2.2.2.2.1, z.1.2.2.2.2.2.2.2.1, z.1.2.2.2.2.2.2.2.2.1, T), z.2)
def Z.clr (z : Z) : Z := ((z.1.1, z.1.2.1, z.1.2.2.1, z.1.2.2.2.1, z.1.2.2.2.2.1, z.1.2.2.2.2.2.1, z.1.2.2.2.2.2.2.1, [], z.1.2.2.2.2.2.2.2.2), z.2)
theorem okZ.wTk {n : Nat} {z : Z} (h : okZ n z) {T : Nat} (hT : T < 1000) : okZ n (z.wTk T) := ⟨h.mem, h.cod, h.ast, h.acd, h.fc, h.tot, h.pos, h.beg, h.wnt, h.cam, h.pl, h.mv, h.paid, h.lim, h.lims, h.ins, h.oki, h.unq, h.tns, h.turns, hT, h.out, h.outr, h.bank, h.mpl, h.crd⟩
theorem newD_flr (z : Z) {P : Nat} (h : P < 16384) : z.newD.flr P = z.flr P := by
  rw [flr_a h, flr_a h]; rfl
theorem okZ.newD {n : Nat} {z : Z} (h : okZ n z) : okZ n z.newD.clr := by
  have h0 := big_0 n
  have ht := h.tot
  refine ⟨h.mem, h.cod, h.ast, h.acd, h.fc, h.tot, h.pos, fun P => ?_, fun P => ?_, fun P => ?_, h.pl, fun P => ?_, fun k => ?_, h.lim, h.lims, h.ins, h.oki, h.unq, h.tns, h.turns, h.tick, fun P hP hq => ?_, fun k hk hq => ?_, h.bank, h.mpl, h.crd⟩
  · have := h.pos P
    show -(big n) ≤ z.pos P ∧ z.pos P ≤ big n
    omega
  · show (0 : Int) ≤ 0 ∧ 0 + (z.tot : Int) ≤ big n
    omega
  · show (0 : Int) ≤ 0 ∧ 0 + (z.tot : Int) ≤ big n
    omega
  · have := h.mv P
    show 0 + z.ins.length ≤ n
    omega
  · show -(big n) ≤ (0 : Int) - (z.tot : Int) ∧ (0 : Int) + (z.tot : Int) ≤ big n
    omega
  · have := h.out P hP hq
    exact ⟨this.1, this.2.1, this.1, rfl, rfl, rfl⟩
  · exact ⟨rfl, (h.outr k hk hq).2⟩
theorem good.newD {z : Z} (hG : good z) : good z.newD.clr := by
  refine ⟨fun P h1 h2 h3 h4 => ?_, hG.2.1, fun k hk hl => ?_⟩
  · show z.newD.flr P ≤ z.pos P
    rw [newD_flr z h2]
    exact hG.1 P h1 h2 h3 h4
  · show (0 : Int) ≤ z.lim k
    exact hl
theorem tel_app (z : Z) (a b : List (Ins × Bool)) : telB z (a ++ b) = telB z a ++ telB z b := by
  unfold telB
  rw [List.map_append, List.flatten_append]
theorem tel_bck (z : Z) (is : List Ins) : telB z (bck is) = backs z is := by
  unfold telB bck backs
  rw [List.map_map]; rfl
theorem tel_mem {z z' : Z} (h : z'.mem = z.mem) (es : List (Ins × Bool)) : telB z' es = telB z es := by
  unfold telB evB
  rw [h]
def TK (o : Bool) (n : Nat) (S : hS) (s : mS) (z : Z) (g : hG) (q u : List Ins) (L : Nat) (es : List (Ins × Bool)) : Prop := (rTape S s) ∧ (∀ j, am_bn 2 (s.2.2.1 23 j) = s.2.2.1 23 j) ∧ (rDisk S s) ∧ (S.2.1 503 20 = s.1 55) ∧ (HZ S z g q u L es) ∧ (RS s z (telB z es)) ∧ (S.2.1 504 20 = nI z.tick) ∧ (s.1 56 = nI z.tick) ∧ (HTx S z.txs) ∧ (MXt s z.txs) ∧ (okZ n z) ∧ (okT n z) ∧ (good z) ∧ (z.fst (fun _ => false) q = none) ∧ (∀ i ∈ z.ins, ∃ t ∈ z.txs, t.who = i.who ∧ t.nm = i.nm) ∧ (o = true → 900 ≤ z.tick → z.ins = []) ∧ (s.1 61 = 0) ∧ (∃ b, s.1 54 = b2i b) ∧ (∀ e ∈ es, e.1.who < z.mem.length ∧ e.1.nm.length = 8 ∧ is36 e.1.nm) ∧ (HAn S []) ∧ (S.2.1 202 7 = nI 0) ∧ (s.1 8 = nI 0)
theorem TK.tp {o : Bool} {n : Nat} {S : hS} {s : mS} {z : Z} {g : hG} {q u : List Ins} {L : Nat} {es : List (Ins × Bool)} (h : TK o n S s z g q u L es) : rTape S s := h.1
theorem TK.tb {o : Bool} {n : Nat} {S : hS} {s : mS} {z : Z} {g : hG} {q u : List Ins} {L : Nat} {es : List (Ins × Bool)} (h : TK o n S s z g q u L es) : ∀ j, am_bn 2 (s.2.2.1 23 j) = s.2.2.1 23 j := h.2.1
theorem TK.dk {o : Bool} {n : Nat} {S : hS} {s : mS} {z : Z} {g : hG} {q u : List Ins} {L : Nat} {es : List (Ins × Bool)} (h : TK o n S s z g q u L es) : rDisk S s := h.2.2.1
theorem TK.dy {o : Bool} {n : Nat} {S : hS} {s : mS} {z : Z} {g : hG} {q u : List Ins} {L : Nat} {es : List (Ins × Bool)} (h : TK o n S s z g q u L es) : S.2.1 503 20 = s.1 55 := h.2.2.2.1
theorem TK.hz {o : Bool} {n : Nat} {S : hS} {s : mS} {z : Z} {g : hG} {q u : List Ins} {L : Nat} {es : List (Ins × Bool)} (h : TK o n S s z g q u L es) : HZ S z g q u L es := h.2.2.2.2.1
theorem TK.rs {o : Bool} {n : Nat} {S : hS} {s : mS} {z : Z} {g : hG} {q u : List Ins} {L : Nat} {es : List (Ins × Bool)} (h : TK o n S s z g q u L es) : RS s z (telB z es) := h.2.2.2.2.2.1
theorem TK.t1 {o : Bool} {n : Nat} {S : hS} {s : mS} {z : Z} {g : hG} {q u : List Ins} {L : Nat} {es : List (Ins × Bool)} (h : TK o n S s z g q u L es) : S.2.1 504 20 = nI z.tick := h.2.2.2.2.2.2.1
theorem TK.t2 {o : Bool} {n : Nat} {S : hS} {s : mS} {z : Z} {g : hG} {q u : List Ins} {L : Nat} {es : List (Ins × Bool)} (h : TK o n S s z g q u L es) : s.1 56 = nI z.tick := h.2.2.2.2.2.2.2.1
theorem TK.hc {o : Bool} {n : Nat} {S : hS} {s : mS} {z : Z} {g : hG} {q u : List Ins} {L : Nat} {es : List (Ins × Bool)} (h : TK o n S s z g q u L es) : HTx S z.txs := h.2.2.2.2.2.2.2.2.1
theorem TK.hx {o : Bool} {n : Nat} {S : hS} {s : mS} {z : Z} {g : hG} {q u : List Ins} {L : Nat} {es : List (Ins × Bool)} (h : TK o n S s z g q u L es) : MXt s z.txs := h.2.2.2.2.2.2.2.2.2.1
theorem TK.ok {o : Bool} {n : Nat} {S : hS} {s : mS} {z : Z} {g : hG} {q u : List Ins} {L : Nat} {es : List (Ins × Bool)} (h : TK o n S s z g q u L es) : okZ n z := h.2.2.2.2.2.2.2.2.2.2.1
theorem TK.ot {o : Bool} {n : Nat} {S : hS} {s : mS} {z : Z} {g : hG} {q u : List Ins} {L : Nat} {es : List (Ins × Bool)} (h : TK o n S s z g q u L es) : okT n z := h.2.2.2.2.2.2.2.2.2.2.2.1
theorem TK.gd {o : Bool} {n : Nat} {S : hS} {s : mS} {z : Z} {g : hG} {q u : List Ins} {L : Nat} {es : List (Ins × Bool)} (h : TK o n S s z g q u L es) : good z := h.2.2.2.2.2.2.2.2.2.2.2.2.1
theorem TK.na {o : Bool} {n : Nat} {S : hS} {s : mS} {z : Z} {g : hG} {q u : List Ins} {L : Nat} {es : List (Ins × Bool)} (h : TK o n S s z g q u L es) : z.fst (fun _ => false) q = none := h.2.2.2.2.2.2.2.2.2.2.2.2.2.1
theorem TK.us {o : Bool} {n : Nat} {S : hS} {s : mS} {z : Z} {g : hG} {q u : List Ins} {L : Nat} {es : List (Ins × Bool)} (h : TK o n S s z g q u L es) : ∀ i ∈ z.ins, ∃ t ∈ z.txs, t.who = i.who ∧ t.nm = i.nm := h.2.2.2.2.2.2.2.2.2.2.2.2.2.2.1
theorem TK.sh {o : Bool} {n : Nat} {S : hS} {s : mS} {z : Z} {g : hG} {q u : List Ins} {L : Nat} {es : List (Ins × Bool)} (h : TK o n S s z g q u L es) : o = true → 900 ≤ z.tick → z.ins = [] := h.2.2.2.2.2.2.2.2.2.2.2.2.2.2.2.1
theorem TK.fl {o : Bool} {n : Nat} {S : hS} {s : mS} {z : Z} {g : hG} {q u : List Ins} {L : Nat} {es : List (Ins × Bool)} (h : TK o n S s z g q u L es) : s.1 61 = 0 := h.2.2.2.2.2.2.2.2.2.2.2.2.2.2.2.2.1
theorem TK.fb {o : Bool} {n : Nat} {S : hS} {s : mS} {z : Z} {g : hG} {q u : List Ins} {L : Nat} {es : List (Ins × Bool)} (h : TK o n S s z g q u L es) : ∃ b, s.1 54 = b2i b := h.2.2.2.2.2.2.2.2.2.2.2.2.2.2.2.2.2.1
theorem TK.he {o : Bool} {n : Nat} {S : hS} {s : mS} {z : Z} {g : hG} {q u : List Ins} {L : Nat} {es : List (Ins × Bool)} (h : TK o n S s z g q u L es) : ∀ e ∈ es, e.1.who < z.mem.length ∧ e.1.nm.length = 8 ∧ is36 e.1.nm := h.2.2.2.2.2.2.2.2.2.2.2.2.2.2.2.2.2.2.1
theorem TK.hA {o : Bool} {n : Nat} {S : hS} {s : mS} {z : Z} {g : hG} {q u : List Ins} {L : Nat} {es : List (Ins × Bool)} (h : TK o n S s z g q u L es) : HAn S [] := h.2.2.2.2.2.2.2.2.2.2.2.2.2.2.2.2.2.2.2.1
theorem TK.e1 {o : Bool} {n : Nat} {S : hS} {s : mS} {z : Z} {g : hG} {q u : List Ins} {L : Nat} {es : List (Ins × Bool)} (h : TK o n S s z g q u L es) : S.2.1 202 7 = nI 0 := h.2.2.2.2.2.2.2.2.2.2.2.2.2.2.2.2.2.2.2.2.1
theorem TK.e2 {o : Bool} {n : Nat} {S : hS} {s : mS} {z : Z} {g : hG} {q u : List Ins} {L : Nat} {es : List (Ins × Bool)} (h : TK o n S s z g q u L es) : s.1 8 = nI 0 := h.2.2.2.2.2.2.2.2.2.2.2.2.2.2.2.2.2.2.2.2.2
section
variable {o : Bool} {n : Nat} {S S' : hS} {s s' : mS} {z : Z} {g : hG} {q u : List Ins} {L : Nat} {es : List (Ins × Bool)}
theorem wTk_fst (z : Z) (T : Nat) (m : Nat → Bool) (q : List Ins) : (z.wTk T).fst m q = z.fst m q := fst_cong (fun i _ m => ⟨rfl, rfl⟩)
/-- the clock moves alone -/
theorem TK.clk (h : TK o n S s z g q u L es) (hM : S.1.length ≤ am_M + 1) {T : Nat} (hT : T < 1000) {o' : Bool} (hsh : o' = true → 900 ≤ T → z.ins = []) : TK o' n (hpI S 504 20 (nI T)) (mI s 56 (nI T)) (z.wTk T) g q u L es := by
  have w : hX [504] [] [] [] [] [] S (hpI S 504 20 (nI T)) := hX.pI hX.rf (by decide)
  have v : mX [56] [] [] [] s (mI s 56 (nI T)) := mX.I mX.rf (by decide)
  have gw : GW S (hpI S 504 20 (nI T)) := GW.ofX w (by decide) (by simp) (by simp) (by simp) (by simp) rfl
  refine ⟨h.tp.x w v (by decide) (by simp) (by decide) (by simp), h.tb, h.dk.x w v (by decide) (by decide), h.dy, h.hz.w gw, ⟨h.rs.1.x5 v (by decide) (by simp) (by simp), h.rs.2.1.x5 v (by decide) (by simp) (by simp) (by simp), h.rs.2.2.1.x v (by decide) (by simp) (by simp), h.rs.2.2.2.x v (by decide) (by simp)⟩, by simp [hpI, up2]; rfl, by simp [mI, va_up]; rfl, h.hc.x hM w (by decide) (by simp) (by simp) (by simp) (by simp), h.hx.x v (by decide) (by simp) (by simp), h.ok.wTk hT, h.ot, h.gd, by rw [wTk_fst]; exact h.na, h.us, hsh, h.fl, h.fb, h.he, h.hA, h.e1, h.e2⟩
/-- resolving, then settling -/
theorem TK.res (h : TK o n S s z g q u L es) (hn : n ≤ 512) (hM : S.1.length ≤ am_M + 1) (hL : L < 1999900000) : ∃ S1 S2 s' C L', h_Qu_resolve S = some S1 ∧ h_Qu_settleAllThatCan S1 = some S2 ∧ d_Mo_resolve s = some s' ∧ TK o n S2 s' (resZ z q C).1 g (resZ z q C).2.1 u L' (es ++ tld (resZ z q C).2.2) ∧ L' ≤ L + 753 ∧ S2.1 = S.1 ∧ s'.1 60 = s.1 60 ∧ s'.1 57 = s.1 57 ∧ (resZ z q C).1.tick = z.tick := by
  obtain ⟨S1, C, L1, a1, a2, a3, a4, a5, a6, a7, a8⟩ := h_resolve hn h.hz h.ok (by omega)
  obtain ⟨S2, L2, b1, b2, b3, b4, b5⟩ := h_settleAll hn a4 a5 (by omega)
  obtain ⟨b, hb⟩ := h.fb
  have hlen := h.hz.O.len
  have htl : (telB z es).length = 14 * es.length := tel_len h.ok.cod (fun e he => ⟨(h.he e he).1, (h.he e he).2.1⟩)
  obtain ⟨s', b', C', r1, r2, r3, r4, r5, r6, r7, r8, r9, r10⟩ := d_resolve hn h.rs h.ok h.gd h.hz.Q.isq hb (by rw [htl]; omega)
  have eC := resZ_cong (z := z) (vld_un a2 a3 r2 r3)
  rw [eC] at r4 r5 r6 r7 r8
  have w : hX sI sL [] [] [] sQ S S2 := a8.tr b5
  have sm := resZ_same z q C
  obtain ⟨sb1, sb2⟩ := resZ_sub z q C
  have hq := isq_ins h.hz.Q.isq
  have eT : es ++ tld (q.filter C) ++ tld (setl 250 (stlL z (q.filter C)) (q.filter fun i => !(C i))).2.2 = es ++ tld (resZ z q C).2.2 := by
    unfold resZ tld
    rw [List.append_assoc, List.map_append]
  rw [eT] at b2
  have eB : telB z es ++ evs z (resZ z q C).2.2 = telB (resZ z q C).1 (es ++ tld (resZ z q C).2.2) := by
    rw [tel_mem sm.mem, tel_app, tel_evs]
  rw [eB] at r4
  refine ⟨S1, S2, s', C, L2, a1, b1, r1, ⟨h.tp.x w r10 (by decide) (by simp) (by decide) (by decide), by rw [r10.2.2.1 23 (by decide)]; exact h.tb, h.dk.x w r10 (by decide) (by decide), by rw [w.ei 503 (by decide), r10.1 55 (by decide)]; exact h.dy, b2, r4, by rw [w.ei 504 (by decide), sm.tick]; exact h.t1, by rw [r10.1 56 (by decide), sm.tick]; exact h.t2, by rw [sm.txs]; exact h.hc.x hM w (by decide) (by decide) (by simp) (by simp) (by decide), by rw [sm.txs]; exact h.hx.x r10 (by decide) (by decide) (by decide), r5, h.ot.same sm.txs, r6, r8, sm.us sb1 h.us, fun ho ht => sub_nil sb1 (h.sh ho (by rw [sm.tick] at ht; exact ht)), by rw [r10.1 61 (by decide)]; exact h.fl, ⟨b', r9⟩, fun e he => ?_, h.hA.x w (by decide) (by simp), by rw [w.ei 202 (by decide)]; exact h.e1, by rw [r10.1 8 (by decide)]; exact h.e2⟩, by omega, w.sh, r10.1 60 (by decide), r10.1 57 (by decide), sm.tick⟩
  rw [sm.mem]
  rcases List.mem_append.mp he with c | c
  · exact h.he e c
  · unfold tld at c
    obtain ⟨i, i1, i2⟩ := List.mem_map.mp c
    rw [← i2]
    have o := h.ok.oki i (hq i (sb2 i i1))
    exact ⟨o.who, o.nm.1, o.nm.2⟩
/-- what is left is sent back -/
theorem TK.bk (h : TK o n S s z g q u L es) (hn : n ≤ 512) (hM : S.1.length ≤ am_M + 1) : ∃ S2 s', h_Qu_sendAllBack S = some S2 ∧ d_Mo_endDay s = some s' ∧ TK true n S2 s' (z.wIns []) g [] [] L (es ++ bck (q ++ u)) ∧ S2.1 = S.1 ∧ s'.1 60 = s.1 60 ∧ s'.1 57 = s.1 57 := by
  obtain ⟨S2, a1, a2, w⟩ := h_sendBack h.hz h.ok
  have hlen := h.hz.O.len
  have htl : (telB z es).length = 14 * es.length := tel_len h.ok.cod (fun e he => ⟨(h.he e he).1, (h.he e he).2.1⟩)
  obtain ⟨s', b1, b2, v⟩ := d_endDay hn h.rs h.ok h.hz.Q.isq (by rw [htl]; omega)
  rw [← h.hz.Q.isu] at b2
  have eB : telB z es ++ backs z (q ++ u) = telB (z.wIns []) (es ++ bck (q ++ u)) := by
    rw [tel_mem (z := z) (z' := z.wIns []) rfl, tel_app, tel_bck]
  rw [eB] at b2
  have fil : okZ n (z.wIns []) := by
    have := h.ok.fil (fun _ => false)
    rw [show (z.ins.filter fun _ => false) = [] from List.filter_eq_nil_iff.mpr (fun a _ => by decide)] at this
    exact this
  refine ⟨S2, s', a1, b1, ⟨h.tp.x w v (by decide) (by simp) (by decide) (by decide), by rw [v.2.2.1 23 (by decide)]; exact h.tb, h.dk.x w v (by decide) (by decide), by rw [w.ei 503 (by decide), v.1 55 (by decide)]; exact h.dy, a2, b2, by rw [w.ei 504 (by decide)]; exact h.t1, by rw [v.1 56 (by decide)]; exact h.t2, h.hc.x hM w (by decide) (by simp) (by simp) (by simp) (by decide), h.hx.x v (by decide) (by decide) (by simp), fil, h.ot, h.gd, rfl, (fun i hi => by cases hi), fun _ _ => rfl, by rw [v.1 61 (by decide)]; exact h.fl, by rw [v.1 54 (by decide)]; exact h.fb, fun e he => ?_, h.hA.x w (by decide) (by simp), by rw [w.ei 202 (by decide)]; exact h.e1, by rw [v.1 8 (by decide)]; exact h.e2⟩, w.sh, v.1 60 (by decide), v.1 57 (by decide)⟩
  rcases List.mem_append.mp he with c | c
  · exact h.he e c
  · unfold bck at c
    obtain ⟨i, i1, i2⟩ := List.mem_map.mp c
    rw [← i2]
    have hi : i ∈ z.ins := by
      rcases List.mem_append.mp i1 with e | e
      · exact isq_ins h.hz.Q.isq i e
      · rw [h.hz.Q.isu] at e; exact (List.mem_filter.mp e).1
    have o := h.ok.oki i hi
    exact ⟨o.who, o.nm.1, o.nm.2⟩
/-- a day begins -/
theorem TK.day (h : TK o n S s z g q u L es) (hM : S.1.length ≤ am_M + 1) (h900 : z.ins = []) : ∃ S2 s', h_De_beginDay (hpI S 504 20 1000) = some S2 ∧ d_Mo_newDay (mI s 56 1000) = some s' ∧ TK true n S2 s' (z.newD.clr.wTk 0) g q u L es ∧ S2.1 = S.1 ∧ s'.1 60 = s.1 60 ∧ s'.1 57 = s.1 57 := by
  obtain ⟨T, hT⟩ : ∃ T, T = hpI (hpI (hpI S 504 20 1000) 504 20 0) 503 20 ((S.2.1 503 20) + 1) := ⟨_, rfl⟩
  have w : hX [503, 504] [] [] [] [] [] S T := by rw [hT]; exact ((hX.rf.pI (by decide)).pI (by decide)).pI (by decide)
  have gw : GW S T := GW.ofX w (by decide) (by simp) (by simp) (by simp) (by simp) rfl
  have zT := h.hz.w gw
  have hcT : HTx T z.txs := h.hc.x hM w (by decide) (by simp) (by simp) (by simp) (by simp)
  have fT := zT.B.fix
  have i503 : T.2.1 503 20 = S.2.1 503 20 + 1 := by rw [hT]; simp [hpI, up2]
  have i504 : T.2.1 504 20 = 0 := by rw [hT]; simp [hpI, up2]
  obtain ⟨S1, a1, a2, a3, a4, a5, a6, a7, a8, a9⟩ := h_clearS fT hcT (by rw [w.sh]; exact hM)
  have z1 := zT.w a3
  obtain ⟨S2, b1, b2, b3, b4⟩ := h_beginDay z1 h.ok.x h.ok.wh (fun e he => (h.he e he).1)
  have f1 : hE hs_fix S1.1 := by rw [a4]; exact fT
  have hM1 : S1.1.length ≤ am_M + 1 := by rw [a4, w.sh]; exact hM
  obtain ⟨s1, hs1⟩ : ∃ s1, s1 = mI s 56 1000 := ⟨_, rfl⟩
  have v1 : mX [56] [] [] [] s s1 := by rw [hs1]; exact mX.I mX.rf (by decide)
  obtain ⟨s', c1, c2, c3, c4, c5, c6⟩ := d_newDay (s := s1) (z := z) (h.rs.1.x5 v1 (by decide) (by simp) (by simp))
  have v : mX [30, 55, 56] [] [36] [33, 34, 35, 37] s s' := (v1.mono (by decide) (by simp) (by simp) (by simp)).tr c6
  have sI : ∀ k a, ¬ ((k = 1401 ∨ k = 1402) ∧ a = 21) → k ≠ 503 → k ≠ 504 → k ≠ 1007 → S2.2.1 k a = S.2.1 k a := fun k a h1 h2 h3 h4 => by
    rw [b4.ei k (by simp; exact h4), a5 k a h1, w.ei k (by simp; exact ⟨h2, h3⟩)]
  have aE : S2.2.2.2.2.1 = S.2.2.2.2.1 := by
    funext b
    rw [b4.a b (by simp), a8, w.a b (by simp)]
  have t503 : S2.2.1 503 20 = S.2.1 503 20 + 1 := by rw [b4.ei 503 (by decide), a5 503 20 (by omega)]; exact i503
  have t504 : S2.2.1 504 20 = 0 := by rw [b4.ei 504 (by decide), a5 504 20 (by omega)]; exact i504
  have Q' : MQu s' z := h.rs.2.1.x5 v (by decide) (by decide) (by decide) (by simp)
  refine ⟨S2, s', ?_, by rw [← hs1]; exact c1, ⟨?_, by rw [v.2.2.1 23 (by decide)]; exact h.tb, ?_, by rw [t503, c4, v1.1 55 (by decide), h.dy], b2, ⟨c2, Q', h.rs.2.2.1.x v (by decide) (by decide) (by decide), h.rs.2.2.2.x v (by decide) (by decide)⟩, t504, c3, (a2.x hM1 b4 (by decide) (by decide) (by simp) (by simp) (by simp)), ⟨⟨c5, fun j t ht => by cases ht⟩, fun t x hx => by cases hx⟩, (h.ok.newD).wTk (by omega), ⟨Nat.zero_le _, fun t ht => by cases ht⟩, h.gd.newD, ?_, ?_, fun _ _ => h900, by rw [v.1 61 (by decide)]; exact h.fl, by rw [v.1 54 (by decide)]; exact h.fb, h.he, ⟨by rw [sI 201 7 (by omega) (by omega) (by omega) (by omega)]; exact h.hA.1, fun j b hb => by cases hb⟩, by rw [sI 202 7 (by omega) (by omega) (by omega) (by omega)]; exact h.e1, by rw [v.1 8 (by decide)]; exact h.e2⟩, by rw [b4.sh, a4, w.sh], v.1 60 (by decide), v.1 57 (by decide)⟩
  · unfold h_De_beginDay
    have : hpI (hpI (hpI S 504 20 1000) 504 20 0) 503 20 (((hpI S 504 20 1000).2.1 503 20) + 1) = T := by
      rw [hT]; rfl
    rw [this, a1, Option.bind_some, b1]; rfl
  · obtain ⟨t, p1, p2, p3, p4⟩ := h.tp
    exact ⟨t, p1, by rw [sI 1 0 (by omega) (by omega) (by omega) (by omega)]; exact p2, by rw [v.1 1 (by decide)]; exact p3, fun j hj => by rw [aE, v.2.2.1 23 (by decide)]; exact p4 j hj⟩
  · obtain ⟨d1, d2, d3, d4⟩ := h.dk
    exact ⟨by rw [sI 600 9 (by omega) (by omega) (by omega) (by omega), v.1 57 (by decide)]; exact d1, by rw [sI 601 9 (by omega) (by omega) (by omega) (by omega), v.1 58 (by decide)]; exact d2, by rw [sI 602 9 (by omega) (by omega) (by omega) (by omega), v.1 59 (by decide)]; exact d3, by rw [sI 603 9 (by omega) (by omega) (by omega) (by omega), v.1 60 (by decide)]; exact d4⟩
  · have hq0 : q = [] := sub_nil (isq_ins h.hz.Q.isq) h900
    rw [hq0]; rfl
  · intro i hi
    have hi' : i ∈ z.ins := hi
    rw [h900] at hi'; cases hi'
end
