/-! Statements, on both sides. -/
def stmL (z : Z) (P : Nat) (x : Ast) : List Int32 := chs x.cd ++ [nI 32] ++ numB (z.beg P) ++ [nI 32] ++ numB (z.wnt P) ++ [nI 32] ++ numB (z.cam P) ++ [nI 32] ++ numB (z.pos P) ++ [nI 32] ++ numB (z.mv P : Nat) ++ [nI 10]
def stm1 (z : Z) (P : Nat) (x : Ast) : List Int32 := if z.beg P = 0 ∧ z.mv P = 0 then [] else stmL z P x
def stmD (z : Z) (p : Nat) : Nat → List Ast → List Int32
  | _, [] => []
  | a, x :: r => stm1 z (64 * p + a) x ++ stmD z p (a + 1) r
/-- numbers that fit -/
def okB (z : Z) : Prop := (∀ P, -3000000000000000000 ≤ z.beg P ∧ z.beg P ≤ 3000000000000000000) ∧ (∀ P, 0 ≤ z.wnt P ∧ z.wnt P ≤ 3000000000000000000) ∧ (∀ P, 0 ≤ z.cam P ∧ z.cam P ≤ 3000000000000000000) ∧ (∀ P, -3000000000000000000 ≤ z.pos P ∧ z.pos P ≤ 3000000000000000000) ∧ (∀ P, z.mv P < 1000)
theorem okB.beg {z : Z} (h : okB z) : ∀ P, -3000000000000000000 ≤ z.beg P ∧ z.beg P ≤ 3000000000000000000 := h.1
theorem okB.wnt {z : Z} (h : okB z) : ∀ P, 0 ≤ z.wnt P ∧ z.wnt P ≤ 3000000000000000000 := h.2.1
theorem okB.cam {z : Z} (h : okB z) : ∀ P, 0 ≤ z.cam P ∧ z.cam P ≤ 3000000000000000000 := h.2.2.1
theorem okB.pos {z : Z} (h : okB z) : ∀ P, -3000000000000000000 ≤ z.pos P ∧ z.pos P ≤ 3000000000000000000 := h.2.2.2.1
theorem okB.mv {z : Z} (h : okB z) : ∀ P, z.mv P < 1000 := h.2.2.2.2
theorem stm_len {z : Z} (hB : okB z) {P : Nat} {x : Ast} (hx : x.cd.length = 3) : (stmL z P x).length ≤ 90 := by
  have h1 := hB.beg P
  have h2 := hB.wnt P
  have h3 := hB.cam P
  have h4 := hB.pos P
  have h5 := hB.mv P
  have a1 := (numB_len (v := z.beg P) (by omega)).1
  have a2 := (numB_len (v := z.wnt P) (by omega)).2.1 (by omega)
  have a3 := (numB_len (v := z.cam P) (by omega)).2.1 (by omega)
  have a4 := (numB_len (v := z.pos P) (by omega)).1
  have a5 := (numB_len (v := (z.mv P : Nat)) (by omega)).2.2 (by omega) (by omega)
  unfold stmL
  simp only [List.length_append, List.length_singleton, chs_len]
  omega
theorem h_fig {v : Int} (hv : -9000000000000000000 < v ∧ v < 9000000000000000000) {S : hS} {bs : List Int32} (hA : HAn S bs) (hl : bs.length + 21 ≤ 6000) : ∃ S', h_Bo_putFigure (lI v) S = some S' ∧ HAn S' (bs ++ [nI 32] ++ numB v) ∧ aX S S' := by
  obtain ⟨S1, a1, a2, a3⟩ := h_put' hA (by omega) (x := 32) (by omega)
  obtain ⟨S2, b1, b2, b3⟩ := h_num hv a2 (by rw [List.length_append, List.length_singleton]; omega)
  refine ⟨S2, ?_, b2, a3.tr b3⟩
  unfold h_Bo_putFigure
  have a1' : h_An_put 32 S = some S1 := a1
  rw [a1', Option.bind_some, b1]; rfl
theorem h_stml {S : hS} {z : Z} {P y b : Nat} {x : Ast} {bs : List Int32} (hB : okB z) (hp : HP S z P y) (hP : P < 16384) (hcd : S.2.1 300 b = nI (b36 x.cd)) (h3 : x.cd.length = 3) (h36 : is36 x.cd) (hA : HAn S bs) (hl : bs.length + 110 ≤ 6000) : ∃ S', ((h_An_putCode (Int32.toInt64 (S.2.1 300 b)) 3 S).bind fun q37 => ((h_Bo_putFigure (q37.2.2.1 1004 y) q37).bind fun q48 => ((h_Bo_putFigure (q48.2.2.1 1005 y) q48).bind fun q59 => ((h_Bo_putFigure (q59.2.2.1 1006 y) q59).bind fun q70 => ((h_Bo_putFigure (q70.2.2.1 1001 y) q70).bind fun q81 => ((h_Bo_putFigure (Int32.toInt64 (q81.2.1 1007 y)) q81).bind fun q92 => ((h_An_put 10 q92).bind fun q103 => (some q103)))))))) = some S' ∧ HAn S' (bs ++ stmL z P x) ∧ aX S S' := by
  obtain ⟨d1, d2, d3, d4⟩ := hp.day hP
  have v1 := hB.beg P
  have v2 := hB.wnt P
  have v3 := hB.cam P
  have v4 := hB.pos P
  have v5 := hB.mv P
  have n1 := (numB_len (v := z.beg P) (by omega)).1
  have n2 := (numB_len (v := z.wnt P) (by omega)).2.1 (by omega)
  have n3 := (numB_len (v := z.cam P) (by omega)).2.1 (by omega)
  have n4 := (numB_len (v := z.pos P) (by omega)).1
  have n5 := (numB_len (v := (z.mv P : Nat)) (by omega)).2.2 (by omega) (by omega)
  have hcl := b36_lt 3 x.cd h3 h36
  rw [show (36 : Nat) ^ 3 = 46656 by decide] at hcl
  obtain ⟨S1, a1, a2, a3⟩ := h_code h36 (n := 2) h3 (by omega) hA (by omega)
  obtain ⟨S2, b1, b2, b3⟩ := h_fig (v := z.beg P) (by omega) a2 (by simp only [List.length_append, List.length_singleton, chs_len]; omega)
  obtain ⟨S3, c1, c2, c3⟩ := h_fig (v := z.wnt P) (by omega) b2 (by simp only [List.length_append, List.length_singleton, chs_len]; omega)
  obtain ⟨S4, e1, e2, e3⟩ := h_fig (v := z.cam P) (by omega) c2 (by simp only [List.length_append, List.length_singleton, chs_len]; omega)
  obtain ⟨S5, f1, f2, f3⟩ := h_fig (v := z.pos P) (by omega) e2 (by simp only [List.length_append, List.length_singleton, chs_len]; omega)
  obtain ⟨S6, g1, g2, g3⟩ := h_fig (v := (z.mv P : Nat)) (by omega) f2 (by simp only [List.length_append, List.length_singleton, chs_len]; omega)
  obtain ⟨S7, i1, i2, i3⟩ := h_put' g2 (x := 10) (by simp only [List.length_append, List.length_singleton, chs_len]; omega) (by omega)
  have a1' : h_An_putCode (lI ((b36 x.cd : Nat) : Int)) 3 S = some S1 := a1
  have i1' : h_An_put 10 S6 = some S7 := i1
  have W2 := a3.tr b3
  have W3 := W2.tr c3
  have W4 := W3.tr e3
  have W5 := W4.tr f3
  refine ⟨S7, ?_, ?_, (W5.tr g3).tr i3⟩
  · rw [hcd, nI_toL (by omega), a1', Option.bind_some, (a3.el _ (by simp) _).trans d1, b1, Option.bind_some, (W2.el _ (by simp) _).trans d2, c1, Option.bind_some, (W3.el _ (by simp) _).trans d3, e1, Option.bind_some, (W4.el _ (by simp) _).trans (hp.lev.trans (by rw [lev_a hP])), f1, Option.bind_some, (W5.ei _ (by decide) _).trans d4, nI_toL (by omega), g1, Option.bind_some, i1', Option.bind_some]
  · unfold stmL
    simpa only [List.append_assoc] using i2
theorem h_stm_loop {z : Z} {g : hG} (hXk : okX z) (hB : okB z) (hcd : ∀ x ∈ z.ast, x.cd.length = 3 ∧ is36 x.cd) {p : Nat} (hp : p < z.mem.length) : ∀ (d fu a : Nat) (S : hS) (bs : List Int32), HB S z g → HAn S bs → bs.length + 90 * d + 20 ≤ 6000 → z.ast.length - a = d → d < fu → a ≤ z.ast.length → ∃ S', hl_Bo_putStatement_2 fu (nI p) (nI a) S = some S' ∧ HAn S' (bs ++ stmD z p a (z.ast.drop a)) ∧ aX S S' := by
  have hm := hXk.mem
  have hs := hXk.ast
  intro d
  induction d with
  | zero =>
    intro fu a S bs h hA hl hd hf ha
    obtain ⟨fu, rfl⟩ : ∃ f, fu = f + 1 := ⟨fu - 1, by omega⟩
    refine ⟨S, ?_, ?_, hX.rf⟩
    · unfold hl_Bo_putStatement_2
      rw [h.asn, if_pos (nI_le0 (by omega) (by omega) (by omega))]
    · rw [List.drop_of_length_le (by omega)]
      show HAn S (bs ++ [])
      rw [List.append_nil]; exact hA
  | succ d ih =>
    intro fu a S bs h hA hl hd hf ha
    obtain ⟨fu, rfl⟩ : ∃ f, fu = f + 1 := ⟨fu - 1, by omega⟩
    obtain ⟨c, hc, hM⟩ := h.p hp
    obtain ⟨x, hx, hAs⟩ := h.a (a := a) (by omega)
    obtain ⟨x3, x36⟩ := hcd x (List.mem_of_getElem? hx)
    have hlt : (stm1 z (64 * p + a) x).length ≤ 90 := by
      unfold stm1
      split
      · simp
      · exact stm_len hB x3
    rw [drop_cons hx]
    have fin : ∀ S1, HAn S1 (bs ++ stm1 z (64 * p + a) x) → aX S S1 → hl_Bo_putStatement_2 (fu + 1) (nI p) (nI a) S = hl_Bo_putStatement_2 fu (nI p) (nI (a + 1)) S1 → ∃ S', hl_Bo_putStatement_2 (fu + 1) (nI p) (nI a) S = some S' ∧ HAn S' (bs ++ stmD z p a (x :: z.ast.drop (a + 1))) ∧ aX S S' := fun S1 h1 w e => by
      obtain ⟨S', b1, b2, b3⟩ := ih fu (a + 1) S1 _ (h.x w (by simp) (by decide) (by simp) (by simp) rfl (h.tab.x w (by decide) (by simp))) h1 (by rw [List.length_append]; omega) (by omega) (by omega) (by omega)
      refine ⟨S', e.trans b1, ?_, w.tr b3⟩
      rw [List.append_assoc] at b2
      exact b2
    have hst : hl_Bo_putStatement_2 (fu + 1) (nI p) (nI a) S = hl_Bo_putStatement_2 (fu + 1) (nI p) (nI a) S := rfl
    conv at hst => rhs; unfold hl_Bo_putStatement_2
    rw [h.asn, if_neg (nI_ngt (by omega) (by omega) (by omega)), ix_N (by omega) (by omega), Option.bind_some, hM.at, Option.bind_some, hM.acr, Option.bind_some, hln_of hM.ack, ix_N (show a < 64 by omega) (by omega), Option.bind_some, hM.acc a (by omega), nI_add1] at hst
    simp only [Option.bind_some, hAs.at] at hst
    cases had : g.ad (64 * p + a) with
    | none =>
      obtain ⟨z1, z2, z3, z4, z5, z6⟩ := h.tab.acc0 _ (by omega) had
      rw [had, if_pos rfl, Option.bind_some] at hst
      refine fin S ?_ hX.rf hst
      unfold stm1
      rw [if_pos ⟨z3, z6⟩, List.append_nil]; exact hA
    | some y =>
      have hpy := h.tab.pos _ y had
      obtain ⟨S1, a1, a2, a3⟩ := h_stml hB hpy (by omega) hAs.cod x3 x36 hA (by omega)
      obtain ⟨d1, d2, d3, d4⟩ := hpy.day (by omega)
      have v1 := hB.beg (64 * p + a)
      have v5 := hB.mv (64 * p + a)
      rw [had, if_neg (by simp), Option.bind_some, a1, d1, d4] at hst
      by_cases hb : z.beg (64 * p + a) = 0
      · rw [if_neg (fun q => q ((cmp0_eq (by omega)).mpr hb))] at hst
        by_cases hv : z.mv (64 * p + a) = 0
        · rw [if_pos (by rw [hv]; rfl), Option.bind_some] at hst
          refine fin S ?_ hX.rf hst
          unfold stm1
          rw [if_pos ⟨hb, hv⟩, List.append_nil]; exact hA
        · rw [if_neg (nI_ne0 (by omega) (by omega)), Option.bind_some] at hst
          refine fin S1 ?_ a3 hst
          unfold stm1
          rw [if_neg (fun q => hv q.2)]; exact a2
      · rw [if_pos (fun q => hb ((cmp0_eq (by omega)).mp q)), Option.bind_some] at hst
        refine fin S1 ?_ a3 hst
        unfold stm1
        rw [if_neg (fun q => hb q.1)]; exact a2
theorem h_stm {S : hS} {z : Z} {g : hG} (h : HB S z g) (hXk : okX z) (hB : okB z) (hcd : ∀ x ∈ z.ast, x.cd.length = 3 ∧ is36 x.cd) {p : Nat} (hp : p < z.mem.length) {bs : List Int32} (hA : HAn S bs) (hl : bs.length ≤ 100) : ∃ S', h_Bo_putStatement (nI p) S = some S' ∧ HAn S' (bs ++ stmD z p 0 z.ast) ∧ aX S S' := by
  have hs := hXk.ast
  obtain ⟨S', a1, a2, a3⟩ := h_stm_loop hXk hB hcd hp _ 100000 0 S bs h hA (by omega) rfl (by omega) (by omega)
  refine ⟨S', ?_, a2, a3⟩
  unfold h_Bo_putStatement
  have a1' : hl_Bo_putStatement_2 100000 (nI p) 0 S = some S' := a1
  rw [a1']; rfl
/-! The reference's statement. -/
theorem d_fig {v : Int} (hv : -9000000000000000000 < v ∧ v < 9000000000000000000) {s : mS} {bs : List Int32} (hA : AN s bs) (hl : bs.length + 21 < 32768) : ∃ s1 s2, d_Mo_put 32 s = some s1 ∧ d_Mo_putNumber (lI v) s1 = some s2 ∧ AN s2 (bs ++ [nI 32] ++ numB v) ∧ mX [7] [] [25] [] s s1 ∧ mX [7] [] [25] [] s s2 := by
  obtain ⟨s1, a1, a2, a3⟩ := d_put' hA (by omega) (x := 32) (by omega)
  obtain ⟨s2, b1, b2, b3⟩ := d_num hv a2 (by rw [List.length_append, List.length_singleton]; omega)
  exact ⟨s1, s2, a1, b1, b2, a3, a3.tr b3⟩
theorem d_stml {s : mS} {z : Z} {P a : Nat} {x : Ast} {bs : List Int32} (hB : okB z) (hM : MB s z) (hP : P < 16384) (hcd : s.2.2.2 27 a = lI (b256 x.cd)) (h3 : x.cd.length = 3) (h36 : is36 x.cd) (hA : AN s bs) (hl : bs.length + 110 < 32768) : ∃ s', ((d_Mo_putName (s.2.2.2 27 a) 3 s).bind fun q25 => ((d_Mo_put 32 q25).bind fun q34 => ((d_Mo_putNumber (q34.2.2.2 33 P) q34).bind fun q43 => ((d_Mo_put 32 q43).bind fun q52 => ((d_Mo_putNumber (q52.2.2.2 34 P) q52).bind fun q61 => ((d_Mo_put 32 q61).bind fun q70 => ((d_Mo_putNumber (q70.2.2.2 35 P) q70).bind fun q79 => ((d_Mo_put 32 q79).bind fun q88 => ((d_Mo_putNumber (q88.2.2.2 31 P) q88).bind fun q97 => ((d_Mo_put 32 q97).bind fun q106 => ((d_Mo_putNumber (Int32.toInt64 (q106.2.2.1 36 P)) q106).bind fun q115 => ((d_Mo_put 10 q115).bind fun q124 => (some q124))))))))))))) = some s' ∧ AN s' (bs ++ stmL z P x) ∧ mX [7] [] [25] [] s s' := by
  have v1 := hB.beg P
  have v2 := hB.wnt P
  have v3 := hB.cam P
  have v4 := hB.pos P
  have v5 := hB.mv P
  have n1 := (numB_len (v := z.beg P) (by omega)).1
  have n2 := (numB_len (v := z.wnt P) (by omega)).2.1 (by omega)
  have n3 := (numB_len (v := z.cam P) (by omega)).2.1 (by omega)
  have n4 := (numB_len (v := z.pos P) (by omega)).1
  have n5 := (numB_len (v := (z.mv P : Nat)) (by omega)).2.2 (by omega) (by omega)
  obtain ⟨s1, a1, a2, a3⟩ := d_putName h36 (n := 2) h3 (by omega) hA (by omega)
  have a1' : d_Mo_putName (lI ((b256 x.cd : Nat) : Int)) 3 s = some s1 := a1
  obtain ⟨t2, s2, b0, b1, b2, b3, b4⟩ := d_fig (v := z.beg P) (by omega) a2 (by simp only [List.length_append, List.length_singleton, chs_len]; omega)
  obtain ⟨t3, s3, c0, c1, c2, c3, c4⟩ := d_fig (v := z.wnt P) (by omega) b2 (by simp only [List.length_append, List.length_singleton, chs_len]; omega)
  obtain ⟨t4, s4, e0, e1, e2, e3, e4⟩ := d_fig (v := z.cam P) (by omega) c2 (by simp only [List.length_append, List.length_singleton, chs_len]; omega)
  obtain ⟨t5, s5, f0, f1, f2, f3, f4⟩ := d_fig (v := z.pos P) (by omega) e2 (by simp only [List.length_append, List.length_singleton, chs_len]; omega)
  obtain ⟨t6, s6, g0, g1, g2, g3, g4⟩ := d_fig (v := (z.mv P : Nat)) (by omega) f2 (by simp only [List.length_append, List.length_singleton, chs_len]; omega)
  obtain ⟨s7, i1, i2, i3⟩ := d_put' g2 (x := 10) (by simp only [List.length_append, List.length_singleton, chs_len]; omega) (by omega)
  have i1' : d_Mo_put 10 s6 = some s7 := i1
  have W2 := a3.tr b4
  have W3 := W2.tr c4
  have W4 := W3.tr e4
  have W5 := W4.tr f4
  refine ⟨s7, ?_, ?_, (W5.tr g4).tr i3⟩
  · rw [hcd, a1', Option.bind_some, b0, Option.bind_some, ((a3.tr b3).eB _ (by simp) _).trans (hM.beg P hP), b1, Option.bind_some, c0, Option.bind_some, ((W2.tr c3).eB _ (by simp) _).trans (hM.wnt P hP), c1, Option.bind_some, e0, Option.bind_some, ((W3.tr e3).eB _ (by simp) _).trans (hM.cam P hP), e1, Option.bind_some, f0, Option.bind_some, ((W4.tr f3).eB _ (by simp) _).trans (hM.pos P hP), f1, Option.bind_some, g0, Option.bind_some, ((W5.tr g3).eA _ (by simp) _).trans (hM.mv P hP), nI_toL (by omega), g1, Option.bind_some, i1', Option.bind_some]
  · unfold stmL
    simpa only [List.append_assoc] using i2
theorem d_stm_loop {z : Z} (hX : okX z) (hB : okB z) (hcd : ∀ x ∈ z.ast, x.cd.length = 3 ∧ is36 x.cd) {p : Nat} (hp : p < z.mem.length) : ∀ (d fu a : Nat) (s : mS) (bs : List Int32), MB s z → s.1 5 = nI p → AN s bs → bs.length + 90 * d + 20 ≤ 6000 → z.ast.length - a = d → d < fu → a ≤ z.ast.length → ∃ s', l_Mo_statement_14 fu (nI a) s = some s' ∧ AN s' (bs ++ stmD z p a (z.ast.drop a)) ∧ mX [7] [] [25] [] s s' := by
  have hm := hX.mem
  have hs := hX.ast
  intro d
  induction d with
  | zero =>
    intro fu a s bs h h5 hA hl hd hf ha
    obtain ⟨fu, rfl⟩ : ∃ f, fu = f + 1 := ⟨fu - 1, by omega⟩
    refine ⟨s, ?_, ?_, mX.rf⟩
    · unfold l_Mo_statement_14
      rw [h.asn, if_pos (nI_le0 (by omega) (by omega) (by omega))]
    · rw [List.drop_of_length_le (by omega)]
      show AN s (bs ++ [])
      rw [List.append_nil]; exact hA
  | succ d ih =>
    intro fu a s bs h h5 hA hl hd hf ha
    obtain ⟨fu, rfl⟩ : ∃ f, fu = f + 1 := ⟨fu - 1, by omega⟩
    obtain ⟨x, hx⟩ := get_lt (ks := z.ast) (j := a) (by omega)
    obtain ⟨x3, x36⟩ := hcd x (List.mem_of_getElem? hx)
    have hlt : (stm1 z (64 * p + a) x).length ≤ 90 := by
      unfold stm1
      split
      · simp
      · exact stm_len hB x3
    rw [drop_cons hx]
    have fin : ∀ s1, AN s1 (bs ++ stm1 z (64 * p + a) x) → mX [7] [] [25] [] s s1 → l_Mo_statement_14 (fu + 1) (nI a) s = l_Mo_statement_14 fu (nI (a + 1)) s1 → ∃ s', l_Mo_statement_14 (fu + 1) (nI a) s = some s' ∧ AN s' (bs ++ stmD z p a (x :: z.ast.drop (a + 1))) ∧ mX [7] [] [25] [] s s' := fun s1 h1 w e => by
      obtain ⟨s', b1, b2, b3⟩ := ih fu (a + 1) s1 _ (h.x w (by decide) (by decide) (by simp)) ((w.1 _ (by decide)).trans h5) h1 (by rw [List.length_append]; omega) (by omega) (by omega) (by omega)
      refine ⟨s', e.trans b1, ?_, w.tr b3⟩
      rw [List.append_assoc] at b2
      exact b2
    obtain ⟨s1, a1, a2, a3⟩ := d_stml (a := a) hB h (P := 64 * p + a) (by omega) (h.asc a x hx).1 x3 x36 hA (by omega)
    have v1 := hB.beg (64 * p + a)
    have v5 := hB.mv (64 * p + a)
    have hix : am_ix (64 * nI p + nI a) 16384 = some (64 * p + a) := by
      rw [show (64 : Int32) * nI p + nI a = nI (64 * p + a) by rw [show (64 : Int32) = nI 64 from rfl, nI_mul, nI_add']]
      exact ix_N (by omega) (by omega)
    by_cases hb : z.beg (64 * p + a) = 0
    · by_cases hv : z.mv (64 * p + a) = 0
      · refine fin s ?_ mX.rf ?_
        · unfold stm1
          rw [if_pos ⟨hb, hv⟩, List.append_nil]; exact hA
        · conv => lhs; unfold l_Mo_statement_14
          rw [h.asn, if_neg (nI_ngt (by omega) (by omega) (by omega)), h5, hix, Option.bind_some, h.beg _ (by omega), if_neg (fun q => q ((cmp0_eq (by omega)).mpr hb)), h.mv _ (by omega), hv, if_neg (fun q => q rfl), Option.bind_some, nI_add1]
      · refine fin s1 ?_ a3 ?_
        · unfold stm1
          rw [if_neg (fun q => hv q.2)]; exact a2
        · conv => lhs; unfold l_Mo_statement_14
          rw [h.asn, if_neg (nI_ngt (by omega) (by omega) (by omega)), h5, hix, Option.bind_some, h.beg _ (by omega), if_neg (fun q => q ((cmp0_eq (by omega)).mpr hb)), h.mv _ (by omega), if_pos (nI_ne0 (by omega) (by omega)), ix_N (by omega) (by omega), Option.bind_some, a1, Option.bind_some, nI_add1]
    · refine fin s1 ?_ a3 ?_
      · unfold stm1
        rw [if_neg (fun q => hb q.1)]; exact a2
      · conv => lhs; unfold l_Mo_statement_14
        rw [h.asn, if_neg (nI_ngt (by omega) (by omega) (by omega)), h5, hix, Option.bind_some, h.beg _ (by omega), if_pos (fun q => hb ((cmp0_eq (by omega)).mp q)), ix_N (by omega) (by omega), Option.bind_some, a1, Option.bind_some, nI_add1]
