/-! The class does what a message says: instructions. -/
theorem EO.bx {ki ka kq : List Nat} {S S1 S' : hS} {z z0 : Z} {g g0 : hG} {q u q0 u0 : List Ins} {L : Nat} {ts : List Txt} {es : List (Ins × Bool)} (h0 : HZ S z0 g0 q0 u0 L es) (hC : HTx S ts) (w : BF S S1) (x : hX ki [] [] ka [] kq S1 S') (h : HZ S' z g q u L []) (hki : ∀ k ∈ ki, k ∈ [703, 704, 707, 1101, 1103]) (hka : ∀ k ∈ ka, 22 ≤ k ∧ ∃ m, S1.1[k]? = some (20, m)) (hkq : ∀ k ∈ kq, k ∈ [17, 18]) (hl : S'.1.length ≤ S.1.length + 256) (hlen : S.1.length + 300 < am_M) : EO S S' z g q u L ts := by
  have hf := h0.B.fix
  have f1 : hE hs_fix S1.1 := hf.tr w.sh
  have nki : ∀ k, k ∉ [703, 704, 707, 1101, 1103] → k ∉ ki := fun k hk q => hk (hki k q)
  have l1 : S1.1.length ≤ am_M + 1 := by rw [← x.sh]; omega
  refine ⟨h, (hC.f hf l1 w).x l1 x ⟨nki _ (by decide), nki _ (by decide)⟩ (by simp) (by simp) (fun k hk => Or.inr (hka k hk).2) (fun k hk => by have := hkq k hk; simp at this; omega), (KP.ofB hf w).tr (KP.ofX x (fun k hk => nki k (fun q => by simp at hk q; omega)) (fun q => by have := (hka 1 q).1; omega)), (KA.ofB hf w).tr (KA.ofX x ⟨nki _ (by decide), nki _ (by decide)⟩ (fun q => by have := (hka 8 q).1; omega)), hl⟩
section
variable {n : Nat} {S : hS} {z : Z} {g : hG} {q u : List Ins} {L : Nat} {p : Nat} {M : List Nat} {ts : List Txt}
theorem h_e5 (h : HZ S z g q u L []) (hO : okZ n z) (hok : okM 5 M) (h36 : is36 M) (hfm : z.fm (sl M 3 4) = some p) (m : MG S z 5 p M) (hv : vMat z 5 p M = 0) (hu : ∀ j ∈ z.ins, ¬ (j.who = p ∧ j.nm = sl M 7 8)) (hC : HTx S ts) (hlen : S.1.length + 300 < am_M) : ∃ S' g' q' u', h_De_pay S = some (S.1.length, S') ∧ EO S S' (eff z 5 p M) g' q' u' L ts ∧ g'.xi (insP z p 0 M) = S.1.length := by
  obtain ⟨f1, f2, f3, f4⟩ := hok.l5
  obtain ⟨hp, hpm⟩ := fm_lt hfm
  have hc0 : cdF z (cds 5 M) = 0 := cdF_of (fun t c hc => by obtain ⟨v, v1, _⟩ := m.fd t c hc; exact ⟨v, v1⟩)
  have hv' : vLeg z (legsZ z M) = 0 := hv
  have hlg := legsZ_ok hO hok hc0 hv'
  have h250 := (vLeg_0 hv').1
  have hil := hO.ins
  have ot : S.2.1 817 2 = nI (M.getD 15 0) := m.ot
  have hll : (legsZ z M).length ≤ 4 := by rw [legsZ_len]; omega
  have e805 : S.2.1 805 2 = nI (b36 (z.mem.getD p [])) := by
    rw [m.e805, List.getD_eq_getElem?_getD, hpm]; rfl
  have ee : eff z 5 p M = if (insP z p 0 M).wt then z.wIT (z.ins ++ [insP z p (z.turns + 1) M]) (z.turns + 1) else z.wIT (z.ins ++ [insP z p 0 M]) z.turns := rfl
  rw [ee]
  cases c : (insP z p 0 M).wt with
  | true =>
    rw [if_pos rfl]
    obtain ⟨S1, S', g', q', r1, r2, r3, r4, r5, r6, r7⟩ := h_payW h hO (i := insP z p (z.turns + 1) M) hp rfl hlg hll hu m.LG m.l812 m.e813 e805 m.e806 ot (by omega) (by show M.getD 15 0 < 10; omega) (by omega) c (fun j hj => by have := (hO.oki j hj).tn; show j.tn < z.turns + 1; omega) (z.turns + 1)
    exact ⟨S', g', q', u, r1, EO.bx h hC r5 r6 r2 (by decide) (by simp) (by decide) (by omega) hlen, r3⟩
  | false =>
    rw [if_neg (by decide)]
    obtain ⟨S1, S', g', r1, r2, r3, r4, r5, r6, r7⟩ := h_payU h hO (i := insP z p 0 M) hp rfl hlg hll hu m.LG m.l812 m.e813 e805 m.e806 ot (by omega) (by omega) c
    exact ⟨S', g', q, _, r1, EO.bx h hC r5 r6 r2 (by decide) (by simp) (by decide) (by omega) hlen, r3⟩
theorem cfB_ex {i : Ins} {p : Nat} (h : cfB i p = true) : (∃ l ∈ i.legs, l.f = p) ∧ p ∉ i.ag := by
  unfold cfB at h
  obtain ⟨l, l1, l2⟩ := List.any_eq_true.mp h
  rw [Bool.and_eq_true] at l2
  have e := of_decide_eq_true l2.1
  refine ⟨⟨l, l1, e⟩, fun q => ?_⟩
  have := l2.2
  rw [e, List.contains_iff_mem.mpr q] at this
  cases this
theorem HI.aw (h : HZ S z g q u L []) {i : Ins} (hi : i ∈ z.ins) : 22 ≤ g.xi i + 1 ∧ ∃ m, S.1[g.xi i + 1]? = some (20, m) := by
  have H := h.Q.ins i hi
  obtain ⟨ws, hw⟩ := H.awt
  refine ⟨?_, _, hw.kw⟩
  have hk := H.e.k
  have hf := h.B.fix
  refine Nat.le_of_not_lt (fun c => ?_)
  have hx : g.xi i < 21 := by omega
  have h21 : ∀ a : Fin 21, hs_fix[a.val]? ≠ some (7, 0) := by decide
  obtain ⟨pr, hpr⟩ := get_lt (ks := hs_fix) (j := g.xi i) (show g.xi i < 60 by omega)
  have := hf.get hpr
  rw [hk] at this
  cases this
  exact h21 ⟨g.xi i, hx⟩ hpr
theorem h_e6 (h : HZ S z g q u L []) (hO : okZ n z) (hok : okM 6 M) (h36 : is36 M) (hp : p < z.mem.length) (m : MG S z 6 p M) (hv : vMat z 6 p M = 0) (hC : HTx S ts) (hlen : S.1.length + 300 < am_M) : ∃ S' q' u' i, h_De_confirm S = some (some (g.xi i), S') ∧ EO S S' (eff z 6 p M) g q' u' L ts ∧ z.opn (fmD z (sl M 15 4)) (sl M 19 8) = some i := by
  have hm := hO.mem
  have hl' : M.length = 17 + 12 := hok.len
  have ot : S.2.2.1 818 2 = lI (b36 (sl M 19 8) : Nat) := m.ot
  obtain ⟨b1, b2⟩ := fdM (m.fd 0 (false, sl M 15 4) rfl)
  have hw := (fm_lt b1).1
  have hv' : vCnf z (fmD z (sl M 15 4)) (sl M 19 8) p = 0 := hv
  unfold vCnf at hv'
  cases ho : z.opn (fmD z (sl M 15 4)) (sl M 19 8) with
  | none => rw [ho] at hv'; cases hv'
  | some i =>
    rw [ho] at hv'
    have hv2 : (if cfB i p then 0 else 8) = 0 := hv'
    have hcf : cfB i p = true := by
      cases c : cfB i p with
      | true => rfl
      | false => rw [c] at hv2; cases hv2
    obtain ⟨c1, c2⟩ := cfB_ex hcf
    obtain ⟨i1, i2, i3⟩ := opn_some ho
    have ee : eff z 6 p M = if (i.cnf p).wt then z.wIT (repL (mkIns i.who i.nm i.pr (z.turns + 1) i.legs (i.ag ++ [p])) z.ins) (z.turns + 1) else z.wIT (repL (i.cnf p) z.ins) z.turns := by
      show (match z.opn (fmD z (sl M 15 4)) (sl M 19 8) with | some i => _ | none => z) = _
      rw [ho]
    rw [ee]
    have aw : ∀ k ∈ [g.xi i + 1], 22 ≤ k ∧ ∃ m, S.1[k]? = some (20, m) := fun k hk => by
      rw [List.mem_singleton] at hk
      rw [hk]; exact HI.aw h i1
    cases c : (i.cnf p).wt with
    | true =>
      rw [if_pos rfl]
      obtain ⟨S', q', r1, r2, r3⟩ := h_confirmW h hO ho (by omega) (sl_len (by omega)) (sl_36 h36 _ _) b2 ot m.e813 (by omega) c1 c2 c (tn := z.turns + 1) (fun j hj => by have := (hO.oki j hj).tn; omega) (z.turns + 1)
      exact ⟨S', q', _, i, r1, EO.bx h hC BF.rf r3 r2 (by decide) aw (by decide) (by rw [r3.sh]; omega) hlen, rfl⟩
    | false =>
      rw [if_neg (by decide)]
      obtain ⟨S', r1, r2, r3⟩ := h_confirmU h hO ho (by omega) (sl_len (by omega)) (sl_36 h36 _ _) b2 ot m.e813 (by omega) c1 c2 c
      exact ⟨S', q, _, i, r1, EO.bx h hC BF.rf r3 r2 (by decide) aw (by decide) (by rw [r3.sh]; omega) hlen, rfl⟩
theorem h_e7 (h : HZ S z g q u L []) (hO : okZ n z) (hok : okM 7 M) (h36 : is36 M) (hp : p < z.mem.length) (m : MG S z 7 p M) (hv : vMat z 7 p M = 0) (hC : HTx S ts) (hlen : S.1.length + 300 < am_M) : ∃ S' q' u', h_De_change S = some S' ∧ EO S S' (eff z 7 p M) g q' u' L ts := by
  have hm := hO.mem
  have hl' : M.length = 17 + 8 := hok.len
  have ot : S.2.2.1 818 2 = lI (b36 (sl M 15 8) : Nat) := m.ot
  have hv' : vOwn z p (sl M 15 8) = 0 := hv
  have fd := h_find h.B h.Q hO (w := p) (nm := sl M 15 8) (by omega) (sl_len (by omega)) (sl_36 h36 _ _)
  unfold vOwn at hv'
  cases ho : z.opn p (sl M 15 8) with
  | none => rw [ho, if_pos rfl] at hv'; cases hv'
  | some i =>
    obtain ⟨i1, i2, i3⟩ := opn_some ho
    have ee : eff z 7 p M = z.del i := by
      show (match z.opn p (sl M 15 8) with | some i => z.del i | none => z) = _
      rw [ho]
    rw [ee]
    obtain ⟨S', r1, r2, r3⟩ := h_leaveQ h hO i1
    refine ⟨S', _, _, ?_, EO.bx h hC BF.rf r3 r2 (by decide) (by simp) (by decide) (by rw [r3.sh]; omega) hlen⟩
    unfold h_De_change
    rw [m.e804, if_neg (by decide), if_neg (by decide), if_neg (by decide), if_neg (by decide), if_neg (by decide), if_pos (by decide), m.e813, ot, fd, Option.bind_some, ho]
    show ((h_Qu_leave (some (g.xi i)) S).bind fun q128 => some q128) = some S'
    rw [r1]; rfl
theorem h_e8 (h : HZ S z g q u L []) (hO : okZ n z) (hok : okM 8 M) (h36 : is36 M) (hp : p < z.mem.length) (m : MG S z 8 p M) (hv : vMat z 8 p M = 0) (hC : HTx S ts) (hlen : S.1.length + 300 < am_M) : ∃ S' q' u', h_De_change S = some S' ∧ EO S S' (eff z 8 p M) g q' u' L ts := by
  have hm := hO.mem
  have hl' : M.length = 17 + 9 := hok.len
  have hf' : 1 ≤ M.getD 23 0 ∧ M.getD 23 0 ≤ 9 := hok.ok
  have ot : S.2.2.1 818 2 = lI (b36 (sl M 15 8) : Nat) ∧ S.2.1 817 2 = nI (M.getD 23 0) := m.ot
  have hv' : vOwn z p (sl M 15 8) = 0 := hv
  have fd := h_find h.B h.Q hO (w := p) (nm := sl M 15 8) (by omega) (sl_len (by omega)) (sl_36 h36 _ _)
  unfold vOwn at hv'
  cases ho : z.opn p (sl M 15 8) with
  | none => rw [ho, if_pos rfl] at hv'; cases hv'
  | some i =>
    obtain ⟨i1, i2, i3⟩ := opn_some ho
    have ee : eff z 8 p M = if i.wt then z.wIT (repL (mkIns i.who i.nm (M.getD 23 0) (z.turns + 1) i.legs i.ag) z.ins) (z.turns + 1) else z.wIT (repL (mkIns i.who i.nm (M.getD 23 0) i.tn i.legs i.ag) z.ins) z.turns := by
      show (match z.opn p (sl M 15 8) with | some i => _ | none => z) = _
      rw [ho]
    have ch : ∀ S', h_De_putBehind (some (g.xi i)) (nI (M.getD 23 0)) S = some S' → h_De_change S = some S' := fun S' r1 => by
      unfold h_De_change
      rw [m.e804, if_neg (by decide), if_neg (by decide), if_neg (by decide), if_neg (by decide), if_neg (by decide), if_neg (by decide), if_pos (by decide), m.e813, ot.1, ot.2, fd, Option.bind_some, ho]
      show ((h_De_putBehind (some (g.xi i)) (nI (M.getD 23 0)) S).bind fun q150 => some q150) = some S'
      rw [r1]; rfl
    rw [ee]
    cases c : i.wt with
    | true =>
      rw [if_pos rfl]
      obtain ⟨S', q', r1, r2, r3⟩ := h_putW h hO i1 c (pr := M.getD 23 0) (tn := z.turns + 1) (by omega) (fun j hj => by have := (hO.oki j hj).tn; omega) (z.turns + 1)
      exact ⟨S', q', _, ch S' r1, EO.bx h hC BF.rf r3 r2 (by decide) (by simp) (by decide) (by rw [r3.sh]; omega) hlen⟩
    | false =>
      rw [if_neg (by decide)]
      obtain ⟨r1, r2⟩ := h_putU h hO i1 c (pr := M.getD 23 0)
      have r3 : hX [703] [] [] [] [] [] S (hpI S 703 (g.xi i) (nI (M.getD 23 0))) := hX.pI hX.rf (by decide)
      exact ⟨_, q, _, ch _ r1, EO.bx h hC BF.rf r3 r2 (by decide) (by simp) (by simp) (by show S.1.length ≤ _; omega) hlen⟩
def h_ch (S : hS) : Option (Option Nat × hS) := (if ¬ ((S.2.1 804 2) : Int32) = 5 then (if ¬ ((S.2.1 804 2) : Int32) = 6 then ((h_De_change S).bind fun q79 => (some (none, q79))) else ((h_De_confirm S).bind fun q90 => (some (q90.1, q90.2)))) else ((h_De_pay S).bind fun q101 => (some ((some q101.1), q101.2))))
theorem h_ch_c {S S' : hS} {k : Nat} (hk : k < 15) (h5 : k ≠ 5) (h6 : k ≠ 6) (e : S.2.1 804 2 = nI k) (r : h_De_change S = some S') : h_ch S = some (none, S') := by
  unfold h_ch
  rw [e, if_pos (show ¬ nI k = (5 : Int32) from fun q => h5 (nI_inj (b := 5) (by omega) (by omega) q)), if_pos (show ¬ nI k = (6 : Int32) from fun q => h6 (nI_inj (b := 6) (by omega) (by omega) q)), r]; rfl
theorem h_eff {k : Nat} (h : HZ S z g q u L []) (hO : okZ n z) (hn : n ≤ 512) (hk : k < 13) (hok : okM k M) (h36 : is36 M) (hfm : z.fm (sl M 3 4) = some p) (m : MG S z k p M) (hv : vMat z k p M = 0) (hu : k = 5 → ∀ j ∈ z.ins, ¬ (j.who = p ∧ j.nm = sl M 7 8)) (hC : HTx S ts) (hlen : S.1.length + 300 < am_M) : ∃ o S' g' q' u', h_ch S = some (o, S') ∧ EO S S' (eff z k p M) g' q' u' L ts ∧ (k ≠ 5 → k ≠ 6 → o = none) ∧ (k = 5 → o = some (g'.xi (insP z p 0 M))) ∧ (k = 6 → ∃ i, z.opn (fmD z (sl M 15 4)) (sl M 19 8) = some i ∧ o = some (g'.xi i)) := by
  have hp := (fm_lt hfm).1
  have fin : ∀ {S' g' q' u'}, k ≠ 5 → k ≠ 6 → h_De_change S = some S' → EO S S' (eff z k p M) g' q' u' L ts → ∃ o S' g' q' u', h_ch S = some (o, S') ∧ EO S S' (eff z k p M) g' q' u' L ts ∧ (k ≠ 5 → k ≠ 6 → o = none) ∧ (k = 5 → o = some (g'.xi (insP z p 0 M))) ∧ (k = 6 → ∃ i, z.opn (fmD z (sl M 15 4)) (sl M 19 8) = some i ∧ o = some (g'.xi i)) := fun {S' g' q' u'} h5 h6 r1 r2 => ⟨none, S', g', q', u', h_ch_c (by omega) h5 h6 m.e804 r1, r2, fun _ _ => rfl, fun c => absurd c h5, fun c => absurd c h6⟩
  have hc : k = 0 ∨ k = 1 ∨ k = 2 ∨ k = 3 ∨ k = 4 ∨ k = 5 ∨ k = 6 ∨ k = 7 ∨ k = 8 ∨ k = 9 ∨ k = 10 ∨ k = 11 ∨ k = 12 := by omega
  rcases hc with rfl | rfl | rfl | rfl | rfl | rfl | rfl | rfl | rfl | rfl | rfl | rfl | rfl
  · obtain ⟨S', g', r1, r2⟩ := h_e0 h hO hok m hv hC hlen
    exact fin (by omega) (by omega) r1 r2
  · obtain ⟨S', g', r1, r2⟩ := h_e1 h hO hok m hv hC hlen
    exact fin (by omega) (by omega) r1 r2
  · obtain ⟨S', g', r1, r2⟩ := h_e2 h hO hn hok m hv hC hlen
    exact fin (by omega) (by omega) r1 r2
  · obtain ⟨S', g', r1, r2⟩ := h_e3 h hO hok m hC hlen
    exact fin (by omega) (by omega) r1 r2
  · obtain ⟨S', g', r1, r2⟩ := h_e4 h hO hok m hC hlen
    exact fin (by omega) (by omega) r1 r2
  · obtain ⟨S', g', q', u', r1, r2, r3⟩ := h_e5 h hO hok h36 hfm m hv (hu rfl) hC hlen
    refine ⟨_, S', g', q', u', ?_, r2, fun c => absurd rfl c, fun _ => rfl, fun c => absurd c (by omega)⟩
    unfold h_ch
    rw [m.e804, if_neg (by decide), r1, r3]; rfl
  · obtain ⟨S', q', u', i, r1, r2, r3⟩ := h_e6 h hO hok h36 hp m hv hC hlen
    refine ⟨_, S', g, q', u', ?_, r2, fun _ c => absurd rfl c, fun c => absurd c (by omega), fun _ => ⟨i, r3, rfl⟩⟩
    unfold h_ch
    rw [m.e804, if_pos (by decide), if_neg (by decide), r1]; rfl
  · obtain ⟨S', q', u', r1, r2⟩ := h_e7 h hO hok h36 hp m hv hC hlen
    exact fin (by omega) (by omega) r1 r2
  · obtain ⟨S', q', u', r1, r2⟩ := h_e8 h hO hok h36 hp m hv hC hlen
    exact fin (by omega) (by omega) r1 r2
  · obtain ⟨S', g', r1, r2⟩ := h_e9 h hO hok hp m hC hlen
    exact fin (by omega) (by omega) r1 r2
  · obtain ⟨S', g', r1, r2⟩ := h_e10 h hO hok hp m hv hC hlen
    exact fin (by omega) (by omega) r1 r2
  · obtain ⟨S', g', r1, r2⟩ := h_e11 h hO hn hok hp m hv hC hlen
    exact fin (by omega) (by omega) r1 r2
  · obtain ⟨S', g', r1, r2⟩ := h_e12 h hO hn hok hp m hv hC hlen
    exact fin (by omega) (by omega) r1 r2
end
