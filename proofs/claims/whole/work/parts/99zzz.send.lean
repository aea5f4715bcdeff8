/-! Sending: resolving, and all that changes the house. -/
section
variable {n : Nat} {S S' : hS} {s s' : mS} {z : Z} {g : hG} {q u : List Ins} {L : Nat} {k p : Nat} {M : List Nat}
set_option maxRecDepth 10000 in
theorem ln_aux {a b n : Nat} (h1 : a ≤ b + 259) (h2 : b ≤ 61 + 300 * n) : a ≤ 60 + 300 * (n + 1) := by omega
set_option maxRecDepth 10000 in
theorem lb_aux {a b n : Nat} (h1 : a ≤ b + 251) (h2 : b ≤ 800000 * n) : a ≤ 800000 * (n + 1) := by omega
theorem isq_le {n : Nat} {z : Z} (hO : okZ n z) {q : List Ins} (h : z.isq q) : q.length ≤ 250 := by
  have := isq_len hO.q h
  have h2 := List.length_filter_le Ins.wt z.ins
  have h3 := hO.ins
  omega
theorem same.us {z z' : Z} (h : same z z') (hi : ∀ i ∈ z'.ins, i ∈ z.ins) (us : ∀ i ∈ z.ins, ∃ t ∈ z.txs, t.who = i.who ∧ t.nm = i.nm) : ∀ i ∈ z'.ins, ∃ t ∈ z'.txs, t.who = i.who ∧ t.nm = i.nm := fun i hx => by
  rw [h.txs]; exact us i (hi i hx)
theorem sub_nil {A B : List Ins} (h : ∀ i ∈ B, i ∈ A) (hA : A = []) : B = [] := by
  cases B with
  | nil => rfl
  | cons b B => have := h b (by simp); rw [hA] at this; cases this
theorem resZ_same (z : Z) (q : List Ins) (C : Ins → Bool) : same z (resZ z q C).1 := (same_stls (q.filter C) z).tr (same_setl 250 _ _)
theorem resZ_sub (z : Z) (q : List Ins) (C : Ins → Bool) : (∀ i ∈ (resZ z q C).1.ins, i ∈ z.ins) ∧ (∀ i ∈ (resZ z q C).2.2, i ∈ q) := by
  obtain ⟨h1, h2⟩ := setl_sub 250 (stlL z (q.filter C)) (q.filter fun i => !(C i))
  refine ⟨fun i hi => ?_, fun i hi => ?_⟩
  · have := h1 i hi
    rw [stls_ins] at this
    exact (List.mem_filter.mp this).1
  · have hi' : i ∈ q.filter C ++ (setl 250 (stlL z (q.filter C)) (q.filter fun i => !(C i))).2.2 := hi
    rcases List.mem_append.mp hi' with c | c
    · exact (List.mem_filter.mp c).1
    · exact (List.mem_filter.mp (h2 i c)).1
theorem ev_len {m : Nat} {z : Z} (hO : okZ m z) {es : List Ins} (hs : ∀ i ∈ es, i ∈ z.ins) (hl : es.length ≤ 250) : (telB z (tld es)).length ≤ 3500 := by
  rw [tel_len hO.cod (fun e he => by
    unfold tld at he
    obtain ⟨i, i1, i2⟩ := List.mem_map.mp he
    rw [← i2]
    have o := hO.oki i (hs i i1)
    exact ⟨o.who, o.nm.1⟩)]
  unfold tld
  rw [List.length_map]; omega
theorem okT.same {z z' : Z} (h : okT n z) (e : z'.txs = z.txs) : okT n z' := ⟨by rw [e]; exact h.1, by rw [e]; exact h.2⟩
theorem CX.res (c : CX (n + 1) S s z g q u L) (hn : n < 512) (hln : S.1.length ≤ 61 + 300 * n) (hlb : L ≤ 800000 * n) (hO : okZ n z) (hT0 : okT n z) (hok : okM 13 M) (hT : TXT (s.2.2.1 24) M.length M) (m : MG S z 13 p M) (h4 : s.1 4 = nI 13) (h5 : s.1 5 = nI p) : ∃ S' s', h_De_carryOut S = some S' ∧ d_Mo_answers s = some s' ∧ IN (n + 1) S' s' := by
  have hM : am_M = 16777216 := rfl
  obtain ⟨S', C, L', a1, a2, a3, a4, a5, a6, a7, a8, a9, a10, a11⟩ := h_carryR c.hz hO (by omega) m c.hc c.hA (by omega) (by omega)
  obtain ⟨s', C', b1, b2, b3, b4, b5, b6, b7, b8, b9, b10⟩ := d_ansR c.rs hO c.gd (by omega) hok hT h4 h5 c.hz.Q.isq
  have eC := resZ_cong (z := z) (vld_un a2 a3 b2 b3)
  rw [eC] at b4 b5 b6 b7 b8
  have sm := resZ_same z q C
  obtain ⟨sb1, sb2⟩ := resZ_sub z q C
  have hq := isq_ins c.hz.Q.isq
  have hl : (telB z (tld (resZ z q C).2.2)).length ≤ 3500 := ev_len hO (fun i hi => hq i (sb2 i hi)) (Nat.le_trans (resZ_len z q C) (isq_le hO c.hz.Q.isq))
  rw [← tel_evs] at b4
  refine ⟨S', s', a1, b1, ?_⟩
  refine (c.sg.tr (z' := (resZ z q C).1) a6 a7 b9 (by decide) (by decide) sm.tick).fin a11 b4.2.2.2 (by rw [List.length_append]; show 3 + _ ≤ 6000; omega) a4 b4.1 b4.2.1 b4.2.2.1 (by rw [sm.txs]; exact a5) (by rw [sm.txs]; exact c.hx.x b9 (by decide) (by decide) (by decide)) b5.up (hT0.up.same sm.txs) b6 b8 (sm.us sb1 c.us) (fun ht => sub_nil sb1 (c.sh (by rw [sm.tick] at ht; exact ht))) b10 (by omega) (by omega) ?_ ?_
  · rw [b9.1 60 (by decide)]; exact c.jr
  · rw [b9.1 57 (by decide)]; exact fun w => absurd w c.up
theorem txZ_fst (z : Z) (k p : Nat) (M : List Nat) (m : Nat → Bool) (q : List Ins) : (txZ z k p M).fst m q = z.fst m q := by
  unfold txZ
  split
  · exact fst_cong (fun i _ m => ⟨rfl, rfl⟩)
  · rfl
theorem txZ_isq {z : Z} {q : List Ins} (h : z.isq q) (k p : Nat) (M : List Nat) : (txZ z k p M).isq q := by
  unfold txZ
  split
  · exact h
  · exact h
theorem keyO_txZ (z : Z) (k p : Nat) (M : List Nat) : keyO (txZ z k p M) k p M = keyO z k p M := by
  unfold keyO
  rw [txZ_fmD]
theorem CX.kept (c : CX (n + 1) S s z g q u L) (hn : n < 512) (hk : k < 15) (hT0 : okT n z) (hok : okM k M) (hT : TXT (s.2.2.1 24) M.length M) (hp : p < z.mem.length) (hm : z.mem.length ≤ 256) (h3 : s.1 3 = nI M.length) (h4 : s.1 4 = nI k) (h5 : s.1 5 = nI p) : ∃ s', ((d_Mo_isKept s).bind fun q57 => ((if (q57 : Int32) = 0 then (some s) else ((d_Mo_keep s).bind fun q85 => (some q85))).bind fun (u68 : mS) => (some u68))) = some s' ∧ RS s' (txZ z k p M) [] ∧ MXt s' (txZ z k p M).txs ∧ okT (n + 1) (txZ z k p M) ∧ mX [30] [] [39, 40, 41] [42] s s' := by
  have hN := hok.l123
  have hl := hT0.1
  unfold txZ
  rw [d_kpt hk h4, Option.bind_some]
  cases kpt k with
  | false => exact ⟨s, by rw [if_pos (by decide)]; rfl, c.rs, c.hx, hT0.up, mX.rf⟩
  | true =>
    obtain ⟨s', r1, r2, r3⟩ := d_keep c.hx (fun t ht => (hT0.2 t ht).2.2.2) hT hN.2 (by omega) (by omega) h3 h5
    refine ⟨s', by rw [if_neg (by decide), r1]; rfl, ⟨c.hb.x5 r3 (by decide) (by decide) (by decide), c.hq.x5 r3 (by decide) (by decide) (by decide) (by simp), c.m0.x r3 (by decide) (by decide) (by decide), c.hA'.x r3 (by decide) (by decide)⟩, r2, ⟨?_, fun t ht => ?_⟩, r3⟩
    · show (z.txs ++ [_]).length ≤ n + 1
      rw [List.length_append]; show z.txs.length + 1 ≤ _; omega
    · have ht' : t ∈ z.txs ++ [mkTxt p (sl M 7 8) (byt M)] := ht
      rcases List.mem_append.mp ht' with e | e
      · exact hT0.2 t e
      · rw [List.mem_singleton] at e
        rw [e]
        exact ⟨by show p < 256; omega, sl_len (by omega), sl_36 hT.m36 _ _, by show (byt M).length ≤ 123; rw [byt_len]; exact hN.2⟩
theorem txZ_in {t : Txt} (h : t ∈ z.txs) : t ∈ (txZ z k p M).txs := by
  unfold txZ
  split
  · exact List.mem_append.mpr (Or.inl h)
  · exact h
theorem CX.act (c : CX (n + 1) S s z g q u L) (hn : n < 512) (hln : S.1.length ≤ 61 + 300 * n) (hlb : L ≤ 800000 * n) (hO : okZ n z) (hT0 : okT n z) (hk : k < 13) (hok : okM k M) (hT : TXT (S.2.2.2.2.1 1) M.length M) (hT' : TXT (s.2.2.1 24) M.length M) (hfm : z.fm (sl M 3 4) = some p) (m : MG S z k p M) (hv : vRs z k p M = 0) (h3 : s.1 3 = nI M.length) (h4 : s.1 4 = nI k) (h5 : s.1 5 = nI p) : ∃ S' s', h_De_carryOut S = some S' ∧ ((d_Mo_isKept s).bind fun q57 => ((if (q57 : Int32) = 0 then (some s) else ((d_Mo_keep s).bind fun q85 => (some q85))).bind fun (u68 : mS) => ((d_Mo_answers u68).bind fun q75 => (some ((1 : Int32), q75))))) = some (1, s') ∧ IN (n + 1) S' s' := by
  have hM : am_M = 16777216 := rfl
  have hp := (fm_lt hfm).1
  have hm := hO.mem
  obtain ⟨v1, v2, v3, v4⟩ := vRs_0 hv
  have hu : k = 5 → ∀ j ∈ z.ins, ¬ (j.who = p ∧ j.nm = sl M 7 8) := fun e j hj hc => by
    subst e
    obtain ⟨t, t1, t2, t3⟩ := c.us j hj
    have ht : txK p (sl M 7 8) 0 z.txs = none := v2
    exact txK_none ht t t1 ⟨by rw [t2]; exact hc.1, by rw [t3]; exact hc.2⟩
  obtain ⟨S', g', q2, u2, L', a1, a2, a3, a4, a5, a6, a7, a8, a9, a10⟩ := h_carry c.hz hO c.gd (by omega) hk hok hT hfm m v4 hu c.hc (by have := hT0.1; omega) c.hA (by omega) (by omega)
  have hlb' : L' ≤ 800000 * (n + 1) := lb_aux a9 hlb
  have hln' : S'.1.length ≤ 60 + 300 * (n + 1) := ln_aux a7 hln
  obtain ⟨x1, x2, x3, x4, x5, x6⟩ := txZ_same z k p M
  obtain ⟨s1, b1, b2, b3, b4, b5⟩ := c.kept hn (by omega) hT0 hok hT' hp hm.2 h3 h4 h5
  have O1 := txZ_ok hO k p M
  have G1 := txZ_good c.gd k p M
  have cd1 : cdF (txZ z k p M) (cds k M) = 0 := by rw [txZ_cdF]; exact v1
  have hv1 : vMat (txZ z k p M) k p M = 0 := by rw [txZ_mat]; exact v4
  have hu1 : k = 5 → ∀ j ∈ (txZ z k p M).ins, ¬ (j.who = p ∧ j.nm = sl M 7 8) := by rw [x4]; exact hu
  obtain ⟨O2, G2⟩ := eff_ok (k := k) (p := p) (M := M) O1 G1 (by omega) hok hT.m36 (by rw [x1]; exact hp) cd1 hv1 hu1
  obtain ⟨s', d1, d2, d3, d4, d5, d6, d7, d8⟩ := d_ans (k := k) (p := p) (M := M) (q2 := q2) b2 O1 G1 (by omega) hk hok (by rw [b5.2.2.1 24 (by decide)]; exact hT') (by rw [x1]; exact hp) (by rw [b5.1 4 (by decide)]; exact h4) (by rw [b5.1 5 (by decide)]; exact h5) cd1 hv1 hu1 a2 (fun h2 => eff_na O1 h2 hv1 (txZ_isq c.hz.Q.isq k p M) a2 (by rw [txZ_fst]; exact c.na))
  obtain ⟨e1, e2, e3⟩ := eff_keys (z := txZ z k p M) (k := k) (p := p) (M := M) (by omega)
  have sm := same_setl 250 (eff (txZ z k p M) k p M) q2
  obtain ⟨sb1, sb2⟩ := setl_sub 250 (eff (txZ z k p M) k p M) q2
  have hq := isq_ins a2
  have hl : (telB (eff (txZ z k p M) k p M) (tld (setl 250 (eff (txZ z k p M) k p M) q2).2.2)).length ≤ 3500 := ev_len O2 (fun i hi => hq i (sb2 i hi)) (Nat.le_trans (setl_len 250 _ q2) (isq_le O2 a2))
  rw [keyO_txZ, ← tel_evs] at d2
  have ftx : (setl 250 (eff (txZ z k p M) k p M) q2).1.txs = (txZ z k p M).txs := by rw [sm.txs, e3]
  have ftk : (setl 250 (eff (txZ z k p M) k p M) q2).1.tick = z.tick := by rw [sm.tick, e2, x5]
  have vv : mX [7, 10, 15, 16, 25, 30, 31, 32, 48, 53, 54] [45, 52] [25, 28, 30, 36, 39, 40, 41, 43, 44, 45, 48, 49, 50, 51, 52, 54, 55, 56, 57, 58] [26, 27, 29, 31, 32, 34, 35, 37, 38, 42, 46, 47, 53, 59] s s' := (b5.mono (by decide) (by simp) (by decide) (by decide)).tr (d7.mono (by decide) (by decide) (by decide) (by decide))
  have tl8 : (txt (okw (setl 250 (eff (txZ z k p M) k p M) q2).1 (setl 250 (eff (txZ z k p M) k p M) q2).2.2 (keyO z k p M))).length ≤ 8 := txt_len _ (okw_lt _ _ _)
  have hcT : HTx S' (setl 250 (eff (txZ z k p M) k p M) q2).1.txs := by rw [ftx]; exact a4
  have hxT0 : MXt s' (txZ z k p M).txs := b3.x d7 (by decide) (by decide) (by decide)
  have hxT : MXt s' (setl 250 (eff (txZ z k p M) k p M) q2).1.txs := by rw [ftx]; exact hxT0
  have hlen6 : (txt (okw (setl 250 (eff (txZ z k p M) k p M) q2).1 (setl 250 (eff (txZ z k p M) k p M) q2).2.2 (keyO z k p M)) ++ [nI 10] ++ telB (eff (txZ z k p M) k p M) (tld (setl 250 (eff (txZ z k p M) k p M) q2).2.2)).length ≤ 6000 := by
    rw [List.length_append, List.length_append, List.length_singleton]; omega
  refine ⟨S', s', a1, ?_, ?_⟩
  · rw [d_kpt (by omega) h4, Option.bind_some] at b1 ⊢
    have b1' : (if (b2i (kpt k) : Int32) = 0 then (some s) else ((d_Mo_keep s).bind fun q85 => (some q85))) = some s1 := by
      cases hx : (if (b2i (kpt k) : Int32) = 0 then (some s) else ((d_Mo_keep s).bind fun q85 => (some q85))) with
      | none => rw [hx] at b1; cases b1
      | some y => rw [hx] at b1; exact b1
    rw [b1', Option.bind_some, d1]; rfl
  · refine (c.sg.tr (z' := (setl 250 (eff (txZ z k p M) k p M) q2).1) a5 a6 vv (by decide) (by decide) ftk).fin a10 d2.2.2.2 hlen6 a3 d2.1 d2.2.1 d2.2.2.1 hcT hxT d3 (b4.same ftx) d4 d6 (fun i hi => ?_) (fun ht => ?_) d8 hlb' hln' ?_ ?_
    · rw [ftx]
      rcases e1 i (sb1 i hi) with ⟨j, j1, j2, j3⟩ | ⟨k5, i1, i2⟩
      · rw [x4] at j1
        obtain ⟨t, t1, t2, t3⟩ := c.us j j1
        exact ⟨t, txZ_in t1, by rw [t2]; exact j2, by rw [t3]; exact j3⟩
      · subst k5
        exact ⟨mkTxt p (sl M 7 8) (byt M), List.mem_append.mpr (Or.inr (List.mem_singleton.mpr rfl)), i1.symm, i2.symm⟩
    · rw [ftk] at ht
      have hz0 := c.sh ht
      refine sub_nil sb1 (sub_nil (A := []) (fun i hi => ?_) rfl)
      rcases e1 i hi with ⟨j, j1, _⟩ | ⟨k5, _⟩
      · rw [x4, hz0] at j1; cases j1
      · subst k5
        unfold inT at v3
        rw [if_neg (by omega), if_pos rfl, Bool.and_eq_true] at v3
        have := of_decide_eq_true v3.1
        omega
    · rw [vv.1 60 (by decide)]; exact c.jr
    · rw [vv.1 57 (by decide)]; exact fun w => absurd w c.up
end
