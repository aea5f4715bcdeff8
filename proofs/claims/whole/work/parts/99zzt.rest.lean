/-! Nothing becomes able by a new participant or asset. -/
theorem fst_cong {z z' : Z} : ∀ {q : List Ins} {m : Nat → Bool}, (∀ i ∈ q, ∀ m, z'.can m i = z.can m i ∧ z'.mrk m i = z.mrk m i) → z'.fst m q = z.fst m q := by
  intro q
  induction q with
  | nil => intro m _; rfl
  | cons i q ih =>
    intro m h
    obtain ⟨h1, h2⟩ := h i (by simp) m
    unfold Z.fst
    rw [h1, h2, ih (fun j hj => h j (by simp [hj]))]
theorem na_M {z : Z} {c : List Nat} {q : List Ins} {m : Nat → Bool} : (z.addM c).fst m q = z.fst m q := fst_cong (fun i _ m => ⟨rfl, rfl⟩)
theorem na_A {n : Nat} {z : Z} (hO : okZ n z) {x : Ast} (h3 : z.ast.length < 64) {q : List Ins} (hq : ∀ i ∈ q, i ∈ z.ins) {m : Nat → Bool} : (z.addA x).fst m q = z.fst m q := by
  refine fst_cong (fun i hi m => ?_)
  obtain ⟨n1, n2⟩ := addA_net hO (x := x) (hq i hi)
  have ok := hO.oki i (hq i hi)
  have hm := hO.mem
  have tk : ∀ P, (z.addA x).tks i P = z.tks i P := fun P => by
    unfold Z.tks
    rw [n2 P]; rfl
  have fl : ∀ P ∈ i.pls z.fc, (z.addA x).flr P = z.flr P := fun P hP => by
    by_cases c : P < 16384
    · have hb : P % 64 < z.ast.length ∧ P / 64 < 256 := by
        unfold Ins.pls at hP
        obtain ⟨l, l1, l2⟩ := List.mem_flatMap.mp hP
        have w := ok.lg l l1
        have w1 := w.a
        have w2 := w.f
        have w3 := w.t
        unfold legP at l2
        have h4 := hO.ast
        rcases List.mem_append.mp l2 with q' | q'
        · simp only [List.mem_cons, List.not_mem_nil, or_false] at q'
          omega
        · split at q'
          · simp only [List.mem_cons, List.not_mem_nil, or_false] at q'
            omega
          · cases q'
      rw [flr_a c, flr_a c, addA_crd2 hO h3 hb.2, addA_mny hb.1, addA_fc]
      by_cases c2 : z.fc = none ∧ x.mny = true
      · rw [if_pos c2, if_neg (fun q => by injection q with q; omega), c2.1, if_neg (show ¬ (some (P % 64) = none) by simp)]; rfl
      · rw [if_neg c2]; rfl
    · unfold Z.flr
      rw [if_neg c, if_neg c]; rfl
  refine ⟨?_, ?_⟩
  · unfold Z.can
    rw [n1]
    have ga : ∀ (L : List Nat), (∀ P ∈ L, P ∈ i.pls z.fc) → (L.all fun P => !((z.addA x).tks i P) || (!(m P) && decide ((z.addA x).flr P ≤ (z.addA x).lev P + i.net (z.addA x).fc P))) = (L.all fun P => !(z.tks i P) || (!(m P) && decide (z.flr P ≤ z.lev P + i.net z.fc P))) := by
      intro L
      induction L with
      | nil => intro _; rfl
      | cons P L ih =>
        intro hL
        rw [List.all_cons, List.all_cons, ih (fun Q hQ => hL Q (by simp [hQ])), tk P, n2 P, fl P (hL P (by simp))]; rfl
    exact ga _ (fun P hP => hP)
  · unfold Z.mrk
    funext P
    rw [tk P]
theorem eff_na {n : Nat} {z : Z} (hO : okZ n z) {k p : Nat} {M : List Nat} (hk : k < 2) (hv : vMat z k p M = 0) {q q2 : List Ins} (hq : z.isq q) (hq2 : (eff z k p M).isq q2) (hna : z.fst (fun _ => false) q = none) : (eff z k p M).fst (fun _ => false) q2 = none := by
  have hc : k = 0 ∨ k = 1 := by omega
  rcases hc with rfl | rfl
  · have e : q2 = q := isq.un (z := z) hq2 hq
    rw [e]
    exact na_M.trans hna
  · have e : q2 = q := isq.un (z := z) hq2 hq
    rw [e]
    have hv' : vAst z (sl M 15 3) = 0 := hv
    have h64 : z.ast.length < 64 := by
      have := hO.ast
      unfold vAst at hv'
      by_cases c : z.fa (sl M 15 3) = none
      · rw [if_pos c] at hv'
        by_cases c2 : z.ast.length = 64
        · rw [if_pos c2] at hv'; cases hv'
        · omega
      · rw [if_neg c] at hv'; cases hv'
    exact (na_A hO h64 (isq_ins hq)).trans hna
/-! The greatest set is one. -/
theorem vld_un {z : Z} {q : List Ins} {C C' : Ins → Bool} (h1 : z.vld q C) (h2 : z.ub q C) (h3 : z.vld q C') (h4 : z.ub q C') : ∀ i ∈ q, C' i = C i := fun i hi => by
  cases c : C i with
  | true => exact h4 C h1 i hi c
  | false =>
    cases c' : C' i with
    | false => rfl
    | true => rw [h2 C' h3 i hi c'] at c; cases c
theorem resZ_cong {z : Z} {q : List Ins} {C C' : Ins → Bool} (h : ∀ i ∈ q, C' i = C i) : resZ z q C' = resZ z q C := by
  have e1 : q.filter C' = q.filter C := List.filter_congr h
  have e2 : (q.filter fun i => !(C' i)) = (q.filter fun i => !(C i)) := List.filter_congr (fun i hi => by rw [h i hi])
  unfold resZ
  rw [e1, e2]
theorem tel_evs (z : Z) (es : List Ins) : telB z (tld es) = evs z es := by
  unfold telB tld evs
  rw [List.map_map]; rfl
/-! Resolving, by the reference. -/
theorem d_tot {s : mS} {m : Nat} (h10 : s.1 10 = nI m) (hm : m ≤ 256) {c : Nat} (h15 : s.1 15 = nI c) (hc : c ≤ 64) : (∃ v, d_Mo_assetAt 15 s = some v) ∧ (∃ v, d_Mo_memberAt 15 s = some v) := by
  have pk : ∀ (k : Nat), k ≤ 8 → ∀ (d fu j : Nat) (v : Int64), 15 + k - j = d → d < fu → j ≤ 15 + k → ∃ r, l_Mo_packed_5 fu (nI 15) (nI k) v (nI j) s = some r := by
    intro k hk d
    induction d with
    | zero =>
      intro fu j v hd hf hj
      obtain ⟨fu, rfl⟩ : ∃ f, fu = f + 1 := ⟨fu - 1, by omega⟩
      unfold l_Mo_packed_5
      exact ⟨v, by rw [nI_add', if_pos (nI_le0 (by omega) (by omega) (by omega))]⟩
    | succ d ih =>
      intro fu j v hd hf hj
      obtain ⟨fu, rfl⟩ : ∃ f, fu = f + 1 := ⟨fu - 1, by omega⟩
      unfold l_Mo_packed_5
      rw [nI_add', if_neg (nI_ngt (by omega) (by omega) (by omega)), ix_N (by omega) (by omega), Option.bind_some, nI_add1]
      exact ih fu (j + 1) _ (by omega) (by omega) (by omega)
  have p3 : ∃ v, d_Mo_packed 15 3 s = some v := by
    obtain ⟨r, hr⟩ := pk 3 (by omega) 3 100000 15 0 rfl (by omega) (by omega)
    have hr' : l_Mo_packed_5 100000 15 3 0 15 s = some r := hr
    exact ⟨r, by unfold d_Mo_packed; rw [hr']; rfl⟩
  have p4 : ∃ v, d_Mo_packed 15 4 s = some v := by
    obtain ⟨r, hr⟩ := pk 4 (by omega) 4 100000 15 0 rfl (by omega) (by omega)
    have hr' : l_Mo_packed_5 100000 15 4 0 15 s = some r := hr
    exact ⟨r, by unfold d_Mo_packed; rw [hr']; rfl⟩
  have la : ∀ (v : Int64) (d fu j : Nat), c - j = d → d < fu → j ≤ c → ∃ r, l_Mo_assetAt_10 fu v (nI j) s = some r := by
    intro v d
    induction d with
    | zero =>
      intro fu j hd hf hj
      obtain ⟨fu, rfl⟩ : ∃ f, fu = f + 1 := ⟨fu - 1, by omega⟩
      unfold l_Mo_assetAt_10
      exact ⟨-1, by rw [h15, if_pos (nI_le0 (by omega) (by omega) (by omega))]⟩
    | succ d ih =>
      intro fu j hd hf hj
      obtain ⟨fu, rfl⟩ : ∃ f, fu = f + 1 := ⟨fu - 1, by omega⟩
      unfold l_Mo_assetAt_10
      rw [h15, if_neg (nI_ngt (by omega) (by omega) (by omega)), ix_N (by omega) (by omega), Option.bind_some]
      split
      · rw [nI_add1]; exact ih fu (j + 1) (by omega) (by omega) (by omega)
      · exact ⟨_, rfl⟩
  have lm : ∀ (v : Int64) (d fu j : Nat), m - j = d → d < fu → j ≤ m → ∃ r, l_Mo_memberAt_10 fu v (nI j) s = some r := by
    intro v d
    induction d with
    | zero =>
      intro fu j hd hf hj
      obtain ⟨fu, rfl⟩ : ∃ f, fu = f + 1 := ⟨fu - 1, by omega⟩
      unfold l_Mo_memberAt_10
      exact ⟨-1, by rw [h10, if_pos (nI_le0 (by omega) (by omega) (by omega))]⟩
    | succ d ih =>
      intro fu j hd hf hj
      obtain ⟨fu, rfl⟩ : ∃ f, fu = f + 1 := ⟨fu - 1, by omega⟩
      unfold l_Mo_memberAt_10
      rw [h10, if_neg (nI_ngt (by omega) (by omega) (by omega)), ix_N (by omega) (by omega), Option.bind_some]
      split
      · rw [nI_add1]; exact ih fu (j + 1) (by omega) (by omega) (by omega)
      · exact ⟨_, rfl⟩
  obtain ⟨v3, hv3⟩ := p3
  obtain ⟨v4, hv4⟩ := p4
  refine ⟨?_, ?_⟩
  · unfold d_Mo_assetAt
    rw [hv3, Option.bind_some]
    exact la v3 c 100000 0 rfl (by omega) (by omega)
  · unfold d_Mo_memberAt
    rw [hv4, Option.bind_some]
    exact lm v4 m 100000 0 rfl (by omega) (by omega)
theorem d_ansR {n : Nat} {s : mS} {z : Z} {p : Nat} {M : List Nat} {q : List Ins} (hR : RS s z []) (hO : okZ n z) (hG : good z) (hn : n ≤ 512) (hok : okM 13 M) (hT : TXT (s.2.2.1 24) M.length M) (h4 : s.1 4 = nI 13) (h5 : s.1 5 = nI p) (hq : z.isq q) : ∃ s' C, d_Mo_answers s = some s' ∧ z.vld q C ∧ z.ub q C ∧ RS s' (resZ z q C).1 (txt 2 ++ [nI 10] ++ evs z (resZ z q C).2.2) ∧ okZ n (resZ z q C).1 ∧ good (resZ z q C).1 ∧ (resZ z q C).1.isq (resZ z q C).2.1 ∧ (resZ z q C).1.fst (fun _ => false) (resZ z q C).2.1 = none ∧ mX aI [45, 52] aA aB s s' ∧ ∃ b, s'.1 54 = b2i b := by
  have hm := hO.mem
  have hil := hO.ins
  obtain ⟨s1, s2, a1, a2, a3, a4, a5, a6, a7, a8⟩ := d_head hR hO (k := 13) (by omega) hok hT h4 h5 (fun c => by omega)
  have R2 : RS s2 z _ := hR.ax a6 a5
  have k4 : s2.1 4 = nI 13 := by rw [a6.1 4 (by decide)]; exact h4
  obtain ⟨⟨v1, t1⟩, ⟨v2, t2⟩⟩ := d_tot R2.1.mem hm.2 R2.1.asn hO.ast
  have e1 : d_Mo_does s2 = some s2 := by
    unfold d_Mo_does
    rw [t1, Option.bind_some, t2, Option.bind_some, k4, if_neg (by decide), if_neg (by decide), if_neg (by decide), if_neg (by decide), if_neg (by decide), if_neg (by decide), if_neg (by decide), if_neg (by decide), if_neg (by decide), if_neg (by decide), if_neg (by decide), if_neg (by decide)]
  obtain ⟨s4, b', C, r1, r2, r3, r4, r5, r6, r7, r8, r9, r10⟩ := d_resolve hn R2 hO hG hq a7 (by
    rw [if_neg (by omega)]
    show 3 + _ + _ + _ < _
    omega)
  have dc := d_check r4.1 r5 hn r6
  have w24 : mX aI [45, 52] aA aB s s4 := (a6.mono (by decide) (by decide) (by decide) (by simp)).tr (r10.mono (by decide) (by simp) (by decide) (by decide))
  refine ⟨s4, C, ?_, r2, r3, ?_, r5, r6, r7, r8, w24, ⟨b', r9⟩⟩
  · unfold d_Mo_answers
    rw [a1, Option.bind_some]
    refine (a4 (fun u10 q41 => (d_Mo_does q41).bind fun q50 => ((if ¬ ((q50.1 4) : Int32) = 13 then (if ((q50.1 4) : Int32) = 0 then (some q50) else (if ((q50.1 4) : Int32) = 1 then (some q50) else ((d_Mo_settle q50).bind fun q96 => (some q96)))) else ((d_Mo_resolve q50).bind fun q105 => (some q105))).bind fun (u59 : mS) => ((d_Mo_check u59).bind fun q66 => (if ¬ (u10 : Int32) = 0 then ((d_Mo_ends (q66.1 53) (q66.2.1 52) (mI q66 7 ((s1.1 7) + 1))).bind fun q80 => (some (mI q80 7 (q66.1 7)))) else (some q66)))))).trans ?_
    show ((d_Mo_does s2).bind fun q50 => _) = _
    rw [e1, Option.bind_some, k4, if_neg (by decide), r1, Option.bind_some, Option.bind_some, dc, Option.bind_some]
    rfl
  · have A4 := r4
    rw [if_neg (by omega)] at A4
    exact A4
/-! A statement. -/
theorem okZ.b3 {n : Nat} {z : Z} (h : okZ n z) (hn : n ≤ 512) : okB z := by
  have hb : big n ≤ 2048000000000000000 := by unfold big; omega
  have ht := h.tot
  refine ⟨fun P => by have := h.beg P; omega, fun P => by have := h.wnt P; omega, fun P => by have := h.cam P; omega, fun P => by have := h.pos P; omega, fun P => by have := h.mv P; omega⟩
theorem h_carryS {n : Nat} {S : hS} {z : Z} {g : hG} {q u : List Ins} {L : Nat} {p : Nat} {M : List Nat} (h : HZ S z g q u L []) (hO : okZ n z) (hn : n ≤ 512) (hp : p < z.mem.length) (m : MG S z 14 p M) (hC : HTx S z.txs) (hA : HAn S []) (hM : S.1.length ≤ am_M + 1) : ∃ S', h_De_carryOut S = some S' ∧ HZ S' z g q u L [] ∧ HTx S' z.txs ∧ KP S S' ∧ S'.2.1 202 7 = S.2.1 202 7 ∧ S'.1.length = S.1.length ∧ HAn S' (txt 2 ++ [nI 10] ++ stmD z p 0 z.ast) := by
  obtain ⟨S1, l1, l2, l3⟩ := h_line hA (v := 2) (by omega) (by show 0 + 9 ≤ 6000; omega)
  have z1 : HZ S1 z g q u L [] := h.w (GW.ofX l3 (by decide) (by simp) (by simp) (by decide) (by simp) rfl)
  obtain ⟨S2, t1, t2, t3⟩ := h_stm z1.B hO.x (hO.b3 hn) (fun x hx => ⟨(hO.acd x hx).1, (hO.acd x hx).2.1⟩) hp l2 (by show 0 + 2 + 1 ≤ 100; omega)
  have x : aX S S2 := l3.tr t3
  refine ⟨S2, ?_, h.w (GW.ofX x (by decide) (by simp) (by simp) (by decide) (by simp) rfl), hC.x hM x (by decide) (by simp) (by simp) (fun k hk => Or.inl (by rw [List.mem_singleton] at hk; omega)) (by simp), KP.ofX x (by decide) (by decide), x.ei 202 (by decide) _, by rw [x.sh], t2⟩
  rw [h_carry_eq, m.e804, if_neg (by decide), l1, Option.bind_some, l3.ei 813 (by decide), m.e813, t1]; rfl
theorem d_stm {n : Nat} {s : mS} {z : Z} {p : Nat} (hR : RS s z []) (hO : okZ n z) (hn : n ≤ 512) (hp : p < z.mem.length) (h5 : s.1 5 = nI p) : ∃ s', d_Mo_statement s = some s' ∧ RS s' z (txt 2 ++ [nI 10] ++ stmD z p 0 z.ast) ∧ mX [7] [] [25] [] s s' := by
  obtain ⟨s1, a1, a2, a3⟩ := d_wd (a := 79) (b := 75) (c := 10) (d := 0) (e := 0) hR.2.2.2 (by show 0 + 5 < 32768; omega) (by omega) (by omega) (by omega) (by omega) (by omega)
  have a2' : AN s1 [nI 79, nI 75, nI 10] := a2
  have a1' : d_Mo_putWord 79 75 10 0 0 s = some s1 := a1
  have ha := hO.ast
  obtain ⟨s2, b1, b2, b3⟩ := d_stm_loop hO.x (hO.b3 hn) (fun x hx => ⟨(hO.acd x hx).1, (hO.acd x hx).2.1⟩) hp z.ast.length 100000 0 s1 _ (hR.1.x5 a3 (by decide) (by decide) (by simp)) (by rw [a3.1 5 (by decide)]; exact h5) a2' (by show 3 + 90 * z.ast.length + 20 ≤ 6000; omega) rfl (by omega) (by omega)
  rw [List.drop_zero] at b2
  have b1' : l_Mo_statement_14 100000 0 s1 = some s2 := b1
  refine ⟨s2, ?_, hR.ax ((a3.tr b3).mono (by decide) (by simp) (by simp) (by simp)) b2, a3.tr b3⟩
  unfold d_Mo_statement
  rw [a1', Option.bind_some, b1']; rfl
