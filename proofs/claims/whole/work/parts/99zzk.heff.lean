/-! The class does what a message says: books. -/
def EO (S S' : hS) (z : Z) (g : hG) (q u : List Ins) (L : Nat) (ts : List Txt) : Prop := HZ S' z g q u L [] ∧ HTx S' ts ∧ KP S S' ∧ KA S S' ∧ S'.1.length ≤ S.1.length + 256
theorem EO.ofB {S S' : hS} {z z0 : Z} {g g0 : hG} {q u q0 u0 : List Ins} {L : Nat} {ts : List Txt} {es : List (Ins × Bool)} (h0 : HZ S z0 g0 q0 u0 L es) (hC : HTx S ts) (w : BF S S') (h : HZ S' z g q u L []) (hl : S'.1.length ≤ S.1.length + 256) (hlen : S.1.length + 300 < am_M) : EO S S' z g q u L ts := ⟨h, hC.f h0.B.fix (by omega) w, KP.ofB h0.B.fix w, KA.ofB h0.B.fix w, hl⟩
section
variable {n : Nat} {S : hS} {z : Z} {g : hG} {q u : List Ins} {L : Nat} {p : Nat} {M : List Nat} {ts : List Txt}
theorem okZ.wh (hO : okZ n z) : ∀ i ∈ z.ins, i.who < z.mem.length := fun i hi => (hO.oki i hi).who
theorem h_e0 (h : HZ S z g q u L []) (hO : okZ n z) (hok : okM 0 M) (m : MG S z 0 p M) (hv : vMat z 0 p M = 0) (hC : HTx S ts) (hlen : S.1.length + 300 < am_M) : ∃ S' g', h_De_change S = some S' ∧ EO S S' (eff z 0 p M) g' q u L ts := by
  have hm := hO.mem
  have ot : S.2.1 814 2 = nI (b36 (sl M 15 4)) := m.ot
  have hv' : vNew z (sl M 15 4) = 0 := hv
  have h256 : z.mem.length < 256 := by
    unfold vNew at hv'
    by_cases c : z.fm (sl M 15 4) = none
    · rw [if_pos c] at hv'
      by_cases c2 : z.mem.length = 256
      · rw [if_pos c2] at hv'; cases hv'
      · omega
    · rw [if_neg c] at hv'; cases hv'
  obtain ⟨S', g', r1, r2, r3, r4, r5, r6⟩ := h_addP h.B hO.x (fun P hP hq => (hO.out P hP (Or.inl hq)).2.1) (c := sl M 15 4) h256 (by omega) (by omega)
  have ad : g'.ad = g.ad := r5
  refine ⟨S', g', ?_, EO.ofB h hC r3 (h.b r3 r2 (fun P y hy => by rw [ad]; exact hy) (fun P y hy => Or.inl (by rw [ad] at hy; exact hy)) r6 rfl (fun p' hp' => ?_) (fun i hi => ⟨rfl, fun _ => rfl⟩) hO.wh (fun e he => by cases he)) (by omega) hlen⟩
  · unfold h_De_change
    rw [m.e804, if_pos (by decide), ot, r1]; rfl
  · show (z.mem ++ [sl M 15 4]).getD p' [] = _
    rw [List.getD_eq_getElem?_getD, List.getD_eq_getElem?_getD, List.getElem?_append_left hp']
theorem net_fc {ls : List Leg} {fc : Option Nat} {b : Nat} (h0 : fc = none) (hl : ∀ l ∈ ls, l.a < b) : ls.flatMap (legP (some b)) = ls.flatMap (legP fc) ∧ ∀ P, netL (some b) P ls = netL fc P ls := by
  subst h0
  have h1 : ∀ l ∈ ls, legP (some b) l = legP none l := fun l hl' => by
    unfold legP
    have := hl l hl'
    rw [if_neg (fun c => by injection c with c; omega), if_neg (by simp)]
  have h2 : ∀ l ∈ ls, ∀ P, legN (some b) P l = legN none P l := fun l hl' P => by
    unfold legN
    have := hl l hl'
    rw [if_neg (c := some l.a = some b) (fun c => by injection c with c; omega), if_neg (c := some l.a = none) (by simp)]
  refine ⟨?_, fun P => ?_⟩
  · rw [List.flatMap_def, List.flatMap_def, List.map_congr_left h1]
  · unfold netL
    have : ∀ (ks : List Leg) (v : Int), (∀ l ∈ ks, l ∈ ls) → ks.foldl (fun v l => v + legN (some b) P l) v = ks.foldl (fun v l => v + legN none P l) v := by
      intro ks
      induction ks with
      | nil => intro v _; rfl
      | cons k ks ih =>
        intro v hk
        rw [List.foldl_cons, List.foldl_cons, h2 k (hk k (by simp)) P]
        exact ih _ (fun l hl' => hk l (by simp [hl']))
    exact this ls 0 (fun l hl' => hl')
theorem addA_net (hO : okZ n z) {x : Ast} {i : Ins} (hi : i ∈ z.ins) : i.pls (z.addA x).fc = i.pls z.fc ∧ ∀ P, i.net (z.addA x).fc P = i.net z.fc P := by
  rw [addA_fc]
  by_cases c : z.fc = none ∧ x.mny = true
  · rw [if_pos c]
    exact net_fc c.1 (fun l hl => ((hO.oki i hi).lg l hl).a)
  · rw [if_neg c]; exact ⟨rfl, fun _ => rfl⟩
theorem h_e1 (h : HZ S z g q u L []) (hO : okZ n z) (hok : okM 1 M) (m : MG S z 1 p M) (hv : vMat z 1 p M = 0) (hC : HTx S ts) (hlen : S.1.length + 300 < am_M) : ∃ S' g', h_De_change S = some S' ∧ EO S S' (eff z 1 p M) g' q u L ts := by
  have hm := hO.mem
  have h60 : 59 < S.1.length := fix_lt h.B.fix (by omega)
  have ot : S.2.1 814 2 = nI (b36 (sl M 15 3)) ∧ S.2.1 815 2 = b2i (decide (M.getD 18 0 = 28)) ∧ S.2.1 816 2 = nI (num (sl M 34 2)) := m.ot
  have hf' : (M.getD 18 0 = 28 ∨ M.getD 18 0 = 12) ∧ isD (sl M 19 15) = true ∧ isD (sl M 34 2) = true := hok.ok
  have hv' : vAst z (sl M 15 3) = 0 := hv
  have h64 : z.ast.length < 64 := by
    have := hO.ast
    unfold vAst at hv'
    by_cases c : z.fa (sl M 15 3) = none
    · rw [if_pos c] at hv'
      by_cases c2 : z.ast.length = 64
      · rw [if_pos c2] at hv'; cases hv'
      · omega
    · rw [if_neg c] at hv'; cases hv'
  obtain ⟨x, hx⟩ : ∃ x, x = mkAst (sl M 15 3) (decide (M.getD 18 0 = 12)) (num (sl M 19 15)) (num (sl M 34 2)) := ⟨_, rfl⟩
  have e15 : b2i (decide (M.getD 18 0 = 28)) = b2i (!x.mny) := by
    rw [hx]
    show _ = b2i (!(decide (M.getD 18 0 = 12)))
    rcases hf'.1 with c | c <;> rw [c] <;> decide
  have am := m.am 0 (sl M 19 15) rfl
  obtain ⟨S0, hS0⟩ : ∃ S0, h_As_init S.1.length (nI (b36 x.cd)) (b2i (!x.mny)) (lI x.prc) (nI x.cut) (hNew S 3 0) = some S0 := by
    unfold h_As_init
    rw [if_pos (by cases x.mny <;> decide)]
    exact ⟨_, rfl⟩
  obtain ⟨S', g', r1, r2, r3, r4, r5, r6⟩ := h_addA h.B hO.x (fun P hP hq => (hO.out P hP (Or.inr hq)).2.1) (x := x) h64 (by omega) hS0
  have ad : g'.ad = g.ad := r5
  have al : hs_al S = some S.1.length := by unfold hs_al; rw [if_pos (by omega)]
  have i1 : (hNew S 3 0).2.1 814 2 = nI (b36 x.cd) := by rw [hx]; exact (nw1_ne (by omega)).trans ot.1
  have i2 : (hNew S 3 0).2.1 815 2 = b2i (!x.mny) := ((nw1_ne (by omega)).trans ot.2.1).trans e15
  have i3 : (hNew S 3 0).2.1 816 2 = nI x.cut := by rw [hx]; exact (nw1_ne (by omega)).trans ot.2.2
  have i4 : (hNew S 3 0).2.2.2.2.2.1 6 0 = lI x.prc := by
    show nw2 S.2.2.2.2.2.1 S.1.length 0 6 0 = _
    rw [nw2_ne (by omega), hx]; exact am
  have ee : eff z 1 p M = z.addA x := by rw [hx]; rfl
  rw [ee]
  refine ⟨S', g', ?_, EO.ofB h hC r3 (h.b r3 r2 (fun P y hy => by rw [ad]; exact hy) (fun P y hy => Or.inl (by rw [ad] at hy; exact hy)) r6 rfl (fun p' hp' => rfl) (fun i hi => addA_net hO hi) hO.wh (fun e he => by cases he)) (by omega) hlen⟩
  unfold h_De_change
  rw [m.e804, if_neg (by decide), if_pos (by decide), al, Option.bind_some, show am_ix 0 4 = some 0 from by decide, Option.bind_some, i1, i2, i3, i4, hS0, Option.bind_some, r1]; rfl
theorem h_e2 (h : HZ S z g q u L []) (hO : okZ n z) (hn : n ≤ 512) (hok : okM 2 M) (m : MG S z 2 p M) (hv : vMat z 2 p M = 0) (hC : HTx S ts) (hlen : S.1.length + 300 < am_M) : ∃ S' g', h_De_change S = some S' ∧ EO S S' (eff z 2 p M) g' q u L ts := by
  have hl' : M.length = 17 + 20 := hok.len
  have hf' : isD (sl M 18 15) = true ∧ isD (sl M 33 2) = true := hok.ok
  have ot : S.2.1 816 2 = nI (num (sl M 33 2)) := m.ot
  have am := m.am 0 (sl M 18 15) rfl
  obtain ⟨a1, a2⟩ := fdA (m.fd 0 (true, sl M 15 3) rfl)
  have ha := fa_lt a1
  obtain ⟨x, hx⟩ := get_lt (ks := z.ast) ha
  have hv' : vPrc z (faD z (sl M 15 3)) (num (sl M 18 15)) (num (sl M 33 2)) = 0 := hv
  have hs : x.mny = false := by
    cases c : x.mny with
    | false => rfl
    | true =>
      unfold vPrc at hv'
      rw [mny_get hx, c, if_pos rfl] at hv'
      cases hv'
  obtain ⟨S', g', r1, r2, r3, r4, r5⟩ := h_setPrice h hO.x (hO.c hn) (fun a ha => (hO.fc a ha).2) hO.mpl hO.bank hx hs (num15 (by omega) hf'.1) (num2 (by omega) hf'.2) (by omega) hO.wh (fun e he => by cases he)
  refine ⟨S', g', ?_, EO.ofB h hC r3 r2 (by omega) hlen⟩
  unfold h_De_change
  rw [m.e804, if_neg (by decide), if_neg (by decide), if_pos (by decide), show am_ix 0 12 = some 0 from by decide, Option.bind_some, show am_ix 0 4 = some 0 from by decide, Option.bind_some, a2, am, ot, r1]; rfl
theorem h_e3 (h : HZ S z g q u L []) (hO : okZ n z) (hok : okM 3 M) (m : MG S z 3 p M) (hC : HTx S ts) (hlen : S.1.length + 300 < am_M) : ∃ S' g', h_De_change S = some S' ∧ EO S S' (eff z 3 p M) g' q u L ts := by
  have hl' : M.length = 17 + 22 := hok.len
  have hf' : isD (sl M 22 15) = true := hok.ok
  have hm := hO.mem
  have am := m.am 0 (sl M 22 15) rfl
  have n15 := num15 (by omega) hf'
  obtain ⟨a1, a2⟩ := fdA (m.fd 0 (true, sl M 15 3) rfl)
  obtain ⟨b1, b2⟩ := fdM (m.fd 1 (false, sl M 18 4) rfl)
  obtain ⟨S', g', r1, r2, r3, r4, r5⟩ := h_give h hO.x (fm_lt b1).1 (by omega) (fa_lt a1) (v := (num (sl M 22 15) : Int)) (by omega) (by omega) hO.wh (fun e he => by cases he)
  refine ⟨S', g', ?_, EO.ofB h hC r3 r2 (by omega) hlen⟩
  unfold h_De_change
  rw [m.e804, if_neg (by decide), if_neg (by decide), if_neg (by decide), if_pos (by decide), show am_ix 0 12 = some 0 from by decide, Option.bind_some, show am_ix 1 12 = some 1 from by decide, Option.bind_some, show am_ix 0 4 = some 0 from by decide, Option.bind_some, a2, b2, am, r1]; rfl
theorem h_e4 (h : HZ S z g q u L []) (hO : okZ n z) (hok : okM 4 M) (m : MG S z 4 p M) (hC : HTx S ts) (hlen : S.1.length + 300 < am_M) : ∃ S' g', h_De_change S = some S' ∧ EO S S' (eff z 4 p M) g' q u L ts := by
  have hl' : M.length = 17 + 22 := hok.len
  have hf' : isD (sl M 22 15) = true := hok.ok
  have hm := hO.mem
  have am := m.am 0 (sl M 22 15) rfl
  have n15 := num15 (by omega) hf'
  obtain ⟨a1, a2⟩ := fdA (m.fd 0 (true, sl M 15 3) rfl)
  obtain ⟨b1, b2⟩ := fdM (m.fd 1 (false, sl M 18 4) rfl)
  obtain ⟨S', g', r1, r2, r3, r4, r5⟩ := h_give h hO.x (fm_lt b1).1 (by omega) (fa_lt a1) (v := -(num (sl M 22 15) : Int)) (by omega) (by omega) hO.wh (fun e he => by cases he)
  refine ⟨S', g', ?_, EO.ofB h hC r3 r2 (by omega) hlen⟩
  unfold h_De_change
  rw [m.e804, if_neg (by decide), if_neg (by decide), if_neg (by decide), if_neg (by decide), if_pos (by decide), show am_ix 0 12 = some 0 from by decide, Option.bind_some, show am_ix 1 12 = some 1 from by decide, Option.bind_some, show am_ix 0 4 = some 0 from by decide, Option.bind_some, a2, b2, am, lI_neg, r1]; rfl
theorem hz_lim {S' : hS} {k : Nat} {v m : Int} (h : HZ S z g q u L []) (hO : okZ n z) (w : hX [405, 1002] [1003] [] [] [] [] S S') (hB : HB S' (z.uLim k v m) g) : HZ S' (z.uLim k v m) g q u L [] := h.b (BF.ofX w (by decide) (by decide) (by simp) (by simp)) hB (fun P y hy => hy) (fun P y hy => Or.inl hy) rfl rfl (fun _ _ => rfl) (fun i _ => ⟨rfl, fun _ => rfl⟩) hO.wh (fun e he => by cases he)
theorem h_e9 (h : HZ S z g q u L []) (hO : okZ n z) (hok : okM 9 M) (hp : p < z.mem.length) (m : MG S z 9 p M) (hC : HTx S ts) (hlen : S.1.length + 300 < am_M) : ∃ S' g', h_De_change S = some S' ∧ EO S S' (eff z 9 p M) g' q u L ts := by
  have h60 : 59 < S.1.length := fix_lt h.B.fix (by omega)
  have am := m.am 0 (sl M 19 15) rfl
  obtain ⟨b1, b2⟩ := fdM (m.fd 0 (false, sl M 15 4) rfl)
  obtain ⟨y, S1, g1, r1, r2, r3, r4⟩ := h_room h.B hO.x hp (fm_lt b1).1 (by omega)
  have z1 : HZ S1 z g1 q u L [] := r2.hz h
  obtain ⟨S2, t1, t2, t3⟩ := h_setLimit z1.B r3 (v := num (sl M 19 15))
  have z2 := hz_lim z1 hO t3 t2
  have w2 : BF S S2 := r2.bf.tr (BF.ofX t3 (by decide) (by decide) (by simp) (by simp))
  have ee : (z.uLim (256 * p + fmD z (sl M 15 4)) (num (sl M 19 15)) (z.lims + if z.lim (256 * p + fmD z (sl M 15 4)) < 0 then 1 else 0)) = eff z 9 p M := by
    show _ = z.uLim (256 * p + fmD z (sl M 15 4)) (num (sl M 19 15)) (if 0 ≤ z.lim (256 * p + fmD z (sl M 15 4)) then z.lims else z.lims + 1)
    congr 1
    by_cases c : 0 ≤ z.lim (256 * p + fmD z (sl M 15 4))
    · rw [if_pos c, if_neg (by omega)]; omega
    · rw [if_neg c, if_pos (by omega)]
  rw [ee] at z2
  refine ⟨S2, g1, ?_, EO.ofB h hC w2 z2 (by rw [t3.sh]; omega) hlen⟩
  unfold h_De_change
  rw [m.e804, if_neg (by decide), if_neg (by decide), if_neg (by decide), if_neg (by decide), if_neg (by decide), if_neg (by decide), if_neg (by decide), if_pos (by decide), show am_ix 0 12 = some 0 from by decide, Option.bind_some, m.e813, b2, r1, Option.bind_some, show am_ix 0 4 = some 0 from by decide, Option.bind_some]
  show ((h_Bo_setLimit y (S1.2.2.2.2.2.1 6 0) S1).bind fun q181 => some q181) = some S2
  rw [r2.bf.b 6 (by omega), am, t1]; rfl
theorem h_e10 (h : HZ S z g q u L []) (hO : okZ n z) (hok : okM 10 M) (hp : p < z.mem.length) (m : MG S z 10 p M) (hv : vMat z 10 p M = 0) (hC : HTx S ts) (hlen : S.1.length + 300 < am_M) : ∃ S' g', h_De_change S = some S' ∧ EO S S' (eff z 10 p M) g' q u L ts := by
  obtain ⟨b1, b2⟩ := fdM (m.fd 0 (false, sl M 15 4) rfl)
  have hv' : vUnl z p (fmD z (sl M 15 4)) = 0 := hv
  have hl0 : 0 ≤ z.lim (256 * p + fmD z (sl M 15 4)) := by
    unfold vUnl at hv'
    by_cases c : 0 ≤ z.lim (256 * p + fmD z (sl M 15 4))
    · exact c
    · rw [if_neg c] at hv'; cases hv'
  obtain ⟨y, S1, g1, r1, r2, r3, r4⟩ := h_room h.B hO.x hp (fm_lt b1).1 (by omega)
  have z1 : HZ S1 z g1 q u L [] := r2.hz h
  obtain ⟨S2, t1, t2, t3⟩ := h_dropLimit z1.B r3 hl0
  have z2 := hz_lim z1 hO t3 t2
  have w2 : BF S S2 := r2.bf.tr (BF.ofX t3 (by decide) (by decide) (by simp) (by simp))
  refine ⟨S2, g1, ?_, EO.ofB h hC w2 z2 (by rw [t3.sh]; omega) hlen⟩
  unfold h_De_change
  rw [m.e804, if_neg (by decide), if_neg (by decide), if_neg (by decide), if_neg (by decide), if_neg (by decide), if_neg (by decide), if_neg (by decide), if_neg (by decide), if_pos (by decide), show am_ix 0 12 = some 0 from by decide, Option.bind_some, m.e813, b2, r1, Option.bind_some, t1]; rfl
theorem h_plm (h : HZ S z g q u L []) (hO : okZ n z) (hn : n ≤ 512) (hp : p < z.mem.length) (hp0 : p ≠ 0) {a : Nat} (ha : a < z.ast.length) (hmf : z.mny a = false) {v : Int} (hv : 0 ≤ z.pl (64 * p + a) + v ∧ z.pl (64 * p + a) + v ≤ 4000000000000000000) (e813 : S.2.1 813 2 = nI p) (e5 : S.2.2.2.2.1 5 0 = nI a) (hC : HTx S ts) (hlen : S.1.length + 300 < am_M) : ∃ S' g', h_De_pledgeMore (lI v) S = some S' ∧ EO S S' (z.uPl (64 * p + a) (z.pl (64 * p + a) + v)) g' q u L ts := by
  obtain ⟨x, hx⟩ := get_lt (ks := z.ast) ha
  have e1 : ((z.pl (64 * p + a) + v).toNat : Int) = z.pl (64 * p + a) + v := Int.toNat_of_nonneg hv.1
  obtain ⟨S', g', r1, r2, r3, r4, r5⟩ := h_pledge h hO.x (hO.c hn) (fun a ha => (hO.fc a ha).2) hO.mpl hp hp0 hx (by rw [← mny_get hx]; exact hmf) (v := (z.pl (64 * p + a) + v).toNat) (by omega) (by omega) hO.wh (fun e he => by cases he)
  rw [e1] at r1 r2
  refine ⟨S', g', ?_, EO.ofB h hC r3 r2 (by omega) hlen⟩
  unfold h_De_pledgeMore
  rw [show am_ix 0 12 = some 0 from by decide, Option.bind_some, e813, e5, h_pledged h.B hO.x (fun a ha => (hO.fc a ha).2) hO.mpl hp ha, Option.bind_some, lI_add, r1]; rfl
theorem h_e11 (h : HZ S z g q u L []) (hO : okZ n z) (hn : n ≤ 512) (hok : okM 11 M) (hp : p < z.mem.length) (m : MG S z 11 p M) (hv : vMat z 11 p M = 0) (hC : HTx S ts) (hlen : S.1.length + 300 < am_M) : ∃ S' g', h_De_change S = some S' ∧ EO S S' (eff z 11 p M) g' q u L ts := by
  have hl' : M.length = 17 + 18 := hok.len
  have hf' : isD (sl M 18 15) = true := hok.ok
  have n15 := num15 (by omega) hf'
  have am := m.am 0 (sl M 18 15) rfl
  obtain ⟨a1, a2⟩ := fdA (m.fd 0 (true, sl M 15 3) rfl)
  have hv' : vPlg z p (faD z (sl M 15 3)) (num (sl M 18 15)) = 0 := hv
  have hpl := hO.pl (64 * p + faD z (sl M 15 3))
  have hb : big n ≤ 2048000000000000000 := by unfold big; omega
  unfold vPlg at hv'
  by_cases c1 : p = 0 ∨ z.mny (faD z (sl M 15 3)) = true ∨ num (sl M 18 15) = 0
  · rw [if_pos c1] at hv'; cases hv'
  · have hmf : z.mny (faD z (sl M 15 3)) = false := by
      cases hq : z.mny (faD z (sl M 15 3)) with
      | true => exact absurd (Or.inr (Or.inl hq)) c1
      | false => rfl
    obtain ⟨S', g', r1, r2⟩ := h_plm h hO hn hp (fun q => c1 (Or.inl q)) (fa_lt a1) hmf (v := (num (sl M 18 15) : Int)) (by omega) m.e813 a2 hC hlen
    refine ⟨S', g', ?_, r2⟩
    unfold h_De_change
    rw [m.e804, if_neg (by decide), if_neg (by decide), if_neg (by decide), if_neg (by decide), if_neg (by decide), if_neg (by decide), if_neg (by decide), if_neg (by decide), if_neg (by decide), if_pos (by decide), show am_ix 0 4 = some 0 from by decide, Option.bind_some, am, r1]; rfl
theorem h_e12 (h : HZ S z g q u L []) (hO : okZ n z) (hn : n ≤ 512) (hok : okM 12 M) (hp : p < z.mem.length) (m : MG S z 12 p M) (hv : vMat z 12 p M = 0) (hC : HTx S ts) (hlen : S.1.length + 300 < am_M) : ∃ S' g', h_De_change S = some S' ∧ EO S S' (eff z 12 p M) g' q u L ts := by
  have hl' : M.length = 17 + 18 := hok.len
  have hf' : isD (sl M 18 15) = true := hok.ok
  have n15 := num15 (by omega) hf'
  have am := m.am 0 (sl M 18 15) rfl
  obtain ⟨a1, a2⟩ := fdA (m.fd 0 (true, sl M 15 3) rfl)
  have hv' : vUnp z p (faD z (sl M 15 3)) (num (sl M 18 15)) = 0 := hv
  have hpl := hO.pl (64 * p + faD z (sl M 15 3))
  have hb : big n ≤ 2048000000000000000 := by unfold big; omega
  unfold vUnp at hv'
  by_cases c1 : p = 0 ∨ z.mny (faD z (sl M 15 3)) = true ∨ num (sl M 18 15) = 0
  · rw [if_pos c1] at hv'; cases hv'
  · have hmf : z.mny (faD z (sl M 15 3)) = false := by
      cases hq : z.mny (faD z (sl M 15 3)) with
      | true => exact absurd (Or.inr (Or.inl hq)) c1
      | false => rfl
    rw [if_neg c1] at hv'
    by_cases c2 : z.pl (64 * p + faD z (sl M 15 3)) < (num (sl M 18 15) : Int)
    · rw [if_pos c2] at hv'; cases hv'
    · obtain ⟨S', g', r1, r2⟩ := h_plm h hO hn hp (fun q => c1 (Or.inl q)) (fa_lt a1) hmf (v := -(num (sl M 18 15) : Int)) (by omega) m.e813 a2 hC hlen
      refine ⟨S', g', ?_, ?_⟩
      · unfold h_De_change
        rw [m.e804, if_neg (by decide), if_neg (by decide), if_neg (by decide), if_neg (by decide), if_neg (by decide), if_neg (by decide), if_neg (by decide), if_neg (by decide), if_neg (by decide), if_neg (by decide), if_pos (by decide), show am_ix 0 4 = some 0 from by decide, Option.bind_some, am, lI_neg, r1]; rfl
      · have e2 : z.pl (64 * p + faD z (sl M 15 3)) + -(num (sl M 18 15) : Int) = z.pl (64 * p + faD z (sl M 15 3)) - (num (sl M 18 15) : Int) := by omega
        rw [e2] at r2
        exact r2
end
