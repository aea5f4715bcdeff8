/-! The reference does what a message says: instructions, limits, pledges. -/
section
variable {n : Nat} {s : mS} {z : Z} {p k : Nat} {M : List Nat}
theorem DE.qk {s' : mS} {L : List Ins} {T : Nat} {ki kl ka kb : List Nat} (hB : MB s z) (w : mX ki kl ka kb s s') (hQ : MQu s' (z.wIT L T)) (h1 : ∀ k ∈ ki, k = 31) (h0 : ∀ k ∈ kl, k = 45) (h2 : ∀ k ∈ ka, k ∈ [43, 44, 45, 48, 49, 50, 51, 52, 54]) (h3 : ∀ k ∈ kb, k ∈ [46, 47, 53]) : DE s s' (z.wIT L T) := by
  have b : MB s' z := hB.x5 w ⟨fun c => by have := h1 _ c; omega, fun c => by have := h1 _ c; omega, fun c => by have := h1 _ c; omega, fun c => by have := h1 _ c; omega⟩ ⟨fun c => by have := h2 _ c; simp at this, fun c => by have := h2 _ c; simp at this, fun c => by have := h2 _ c; simp at this⟩ (fun k hk => by have := h3 k hk; simp at this; omega)
  refine ⟨b, hQ, w.mono (fun k hk => ?_) (fun k hk => ?_) (fun k hk => ?_) (fun k hk => ?_)⟩
  · have := h1 k hk; simp; omega
  · have := h0 k hk; simp; omega
  · have := h2 k hk; simp at this ⊢; omega
  · have := h3 k hk; simp at this ⊢; omega
theorem d_e5 (hB : MB s z) (hQ : MQu s z) (hO : okZ n z) (hok : okM 5 M) (hT : TXT (s.2.2.1 24) M.length M) (hp : p < z.mem.length) (h4 : s.1 4 = nI 5) (h5 : s.1 5 = nI p) (hc0 : cdF z (cds 5 M) = 0) (hv : vMat z 5 p M = 0) : ∃ s', d_Mo_does s = some s' ∧ DE s s' (eff z 5 p M) := by
  obtain ⟨t1, t2, t3⟩ := d_two hB hO (by omega) hok hT
  obtain ⟨f1, f2, f3, f4⟩ := hok.l5
  have hm := hO.mem
  have hv' : vLeg z (legsZ z M) = 0 := hv
  have h250 := (vLeg_0 hv').1
  have hil := hO.ins
  have hb := legsZ_b hO hok hc0
  obtain ⟨s', r1, r2, r3⟩ := d_comes hQ hB hO hT (by omega) (w := p) (pr := M.getD 15 0) (ls := legsZ z M) (by omega) (by rw [legsZ_len]; omega) (by rw [legsZ_len]; omega) (legsZ_R hok hc0) (by omega) (fun l hl => by have := (hb l hl).1; omega) h5 (dig_sub hT (by omega) (by omega)).1 (by rw [legsZ_len]; exact (dig_sub hT (by omega) (by omega)).1)
  have hd : d_Mo_does s = some s' := by
    unfold d_Mo_does
    rw [t1, Option.bind_some, t2, Option.bind_some, h4, if_neg (by decide), if_neg (by decide), if_neg (by decide), if_neg (by decide), if_pos (by decide), r1]; rfl
  refine ⟨s', hd, ?_⟩
  show DE s s' (if (insP z p 0 M).wt then z.wIT (z.ins ++ [insP z p (z.turns + 1) M]) (z.turns + 1) else z.wIT (z.ins ++ [insP z p 0 M]) z.turns)
  have r2' : MQu s' (if (insP z p 0 M).wt then z.wIT (z.ins ++ [insP z p (z.turns + 1) M]) (z.turns + 1) else z.wIT (z.ins ++ [insP z p 0 M]) z.turns) := r2
  cases c : (insP z p 0 M).wt with
  | true =>
    rw [c, if_pos rfl] at r2'
    rw [if_pos rfl]
    exact DE.qk hB r3 r2' (by simp) (by simp) (by decide) (by decide)
  | false =>
    rw [c, if_neg (by decide)] at r2'
    rw [if_neg (by decide)]
    exact DE.qk hB r3 r2' (by simp) (by simp) (by decide) (by decide)
theorem opk_ex {w : Nat} {nm : List Nat} {i : Ins} (h : z.opn w nm = some i) : ∃ j, z.opk w nm = some j ∧ z.ins[j]? = some i := by
  cases hk : z.opk w nm with
  | none => rw [opk_none hk] at h; cases h
  | some j =>
    obtain ⟨i', i1, i2⟩ := opk_some hk
    rw [i2] at h
    cases h
    exact ⟨j, rfl, i1⟩
theorem d_e6 (hB : MB s z) (hQ : MQu s z) (hO : okZ n z) (hok : okM 6 M) (hT : TXT (s.2.2.1 24) M.length M) (hp : p < z.mem.length) (h4 : s.1 4 = nI 6) (h5 : s.1 5 = nI p) (hc0 : cdF z (cds 6 M) = 0) (hv : vMat z 6 p M = 0) : ∃ s', d_Mo_does s = some s' ∧ DE s s' (eff z 6 p M) := by
  obtain ⟨t1, t2, t3⟩ := d_two hB hO (by omega) hok hT
  have hm := hO.mem
  have hl' : M.length = 17 + 12 := hok.len
  have b1 := cdO_m (cdF_0 hc0 (false, sl M 15 4) (by simp [cds]))
  have hw := (fm_lt b1).1
  rw [b1] at t2
  have t2' : d_Mo_memberAt 15 s = some (nI (fmD z (sl M 15 4))) := t2
  have dp : d_Mo_packed 19 8 s = some (lI (b256 (sl M 19 8) : Nat)) := d_pck hT (by omega) 19 8 (by omega) (by omega)
  have dop := d_open hQ hO (w := fmD z (sl M 15 4)) (nm := sl M 19 8) (by omega) (sl_len (by omega)) (sl_36 hT.m36 _ _)
  have hv' : vCnf z (fmD z (sl M 15 4)) (sl M 19 8) p = 0 := hv
  unfold vCnf at hv'
  cases ho : z.opn (fmD z (sl M 15 4)) (sl M 19 8) with
  | none => rw [ho] at hv'; cases hv'
  | some i =>
    rw [ho] at hv'
    have hv2 : (if cfB i p then 0 else 8) = 0 := hv'
    have hcf : cfB i p = true := by
      cases c : cfB i p with
      | true => rfl
      | false => rw [c] at hv2; cases hv2
    obtain ⟨c1, c2⟩ := cfB_ex hcf
    obtain ⟨j, j1, j2⟩ := opk_ex ho
    rw [j1] at dop
    have dop' : d_Mo_openOf (nI (fmD z (sl M 15 4))) (lI (b256 (sl M 19 8) : Nat)) s = some (nI j) := dop
    obtain ⟨s', r1, r2, r3⟩ := d_agrees hQ hO j2 (p := p) (by omega) h5 c1 c2
    have hd : d_Mo_does s = some s' := by
      unfold d_Mo_does
      rw [t1, Option.bind_some, t2', Option.bind_some, h4, if_neg (by decide), if_neg (by decide), if_neg (by decide), if_neg (by decide), if_neg (by decide), if_pos (by decide), dp, Option.bind_some, dop', Option.bind_some, r1]; rfl
    refine ⟨s', hd, ?_⟩
    have ee : eff z 6 p M = if (i.cnf p).wt then z.wIT (repL (mkIns i.who i.nm i.pr (z.turns + 1) i.legs (i.ag ++ [p])) z.ins) (z.turns + 1) else z.wIT (repL (i.cnf p) z.ins) z.turns := by
      show (match z.opn (fmD z (sl M 15 4)) (sl M 19 8) with | some i => _ | none => z) = _
      rw [ho]
    rw [ee]
    cases c : (i.cnf p).wt with
    | true =>
      rw [c, if_pos rfl] at r2
      rw [if_pos rfl]
      exact DE.qk hB r3 r2 (by simp) (by simp) (by decide) (by decide)
    | false =>
      rw [c, if_neg (by decide)] at r2
      rw [if_neg (by decide)]
      exact DE.qk hB r3 r2 (by simp) (by simp) (by decide) (by decide)
theorem d_e7 (hB : MB s z) (hQ : MQu s z) (hO : okZ n z) (hok : okM 7 M) (hT : TXT (s.2.2.1 24) M.length M) (hp : p < z.mem.length) (h4 : s.1 4 = nI 7) (h5 : s.1 5 = nI p) (hv : vMat z 7 p M = 0) : ∃ s', d_Mo_does s = some s' ∧ DE s s' (eff z 7 p M) := by
  obtain ⟨t1, t2, t3⟩ := d_two hB hO (by omega) hok hT
  have hm := hO.mem
  have hl' : M.length = 17 + 8 := hok.len
  have dp : d_Mo_packed 15 8 s = some (lI (b256 (sl M 15 8) : Nat)) := d_pck hT (by omega) 15 8 (by omega) (by omega)
  have dop := d_open hQ hO (w := p) (nm := sl M 15 8) (by omega) (sl_len (by omega)) (sl_36 hT.m36 _ _)
  have hv' : vOwn z p (sl M 15 8) = 0 := hv
  unfold vOwn at hv'
  cases ho : z.opn p (sl M 15 8) with
  | none => rw [ho, if_pos rfl] at hv'; cases hv'
  | some i =>
    obtain ⟨j, j1, j2⟩ := opk_ex ho
    rw [j1] at dop
    have dop' : d_Mo_openOf (nI p) (lI (b256 (sl M 15 8) : Nat)) s = some (nI j) := dop
    obtain ⟨s', r1, r2, _, r3⟩ := d_drop hQ hO.ins (fun i hi => (hO.oki i hi).len.2) (get_lt' j2)
    have hd : d_Mo_does s = some s' := by
      unfold d_Mo_does
      rw [t1, Option.bind_some, t2, Option.bind_some, h4, if_neg (by decide), if_neg (by decide), if_neg (by decide), if_neg (by decide), if_neg (by decide), if_neg (by decide), if_pos (by decide), dp, Option.bind_some, h5, dop', Option.bind_some, r1]; rfl
    refine ⟨s', hd, ?_⟩
    have ee : eff z 7 p M = z.wIT (z.ins.filter fun j => !(sameK i j)) z.turns := by
      show (match z.opn p (sl M 15 8) with | some i => z.del i | none => z) = _
      rw [ho]; rfl
    rw [ee]
    rw [erase_filter hO.unq j2] at r2
    exact DE.qk hB r3 r2 (by simp) (by simp) (by decide) (by decide)
theorem d_e8 (hB : MB s z) (hQ : MQu s z) (hO : okZ n z) (hok : okM 8 M) (hT : TXT (s.2.2.1 24) M.length M) (hp : p < z.mem.length) (h4 : s.1 4 = nI 8) (h5 : s.1 5 = nI p) (hv : vMat z 8 p M = 0) : ∃ s', d_Mo_does s = some s' ∧ DE s s' (eff z 8 p M) := by
  obtain ⟨t1, t2, t3⟩ := d_two hB hO (by omega) hok hT
  have hm := hO.mem
  have hl' : M.length = 17 + 9 := hok.len
  have hf' : 1 ≤ M.getD 23 0 ∧ M.getD 23 0 ≤ 9 := hok.ok
  have dp : d_Mo_packed 15 8 s = some (lI (b256 (sl M 15 8) : Nat)) := d_pck hT (by omega) 15 8 (by omega) (by omega)
  have dop := d_open hQ hO (w := p) (nm := sl M 15 8) (by omega) (sl_len (by omega)) (sl_36 hT.m36 _ _)
  have hv' : vOwn z p (sl M 15 8) = 0 := hv
  unfold vOwn at hv'
  cases ho : z.opn p (sl M 15 8) with
  | none => rw [ho, if_pos rfl] at hv'; cases hv'
  | some i =>
    obtain ⟨j, j1, j2⟩ := opk_ex ho
    rw [j1] at dop
    have dop' : d_Mo_openOf (nI p) (lI (b256 (sl M 15 8) : Nat)) s = some (nI j) := dop
    obtain ⟨s', r1, r2, r3⟩ := d_changes hQ hO j2 (pr := M.getD 23 0) (dig_sub hT (by omega) (by omega)).1
    have hd : d_Mo_does s = some s' := by
      unfold d_Mo_does
      rw [t1, Option.bind_some, t2, Option.bind_some, h4, if_neg (by decide), if_neg (by decide), if_neg (by decide), if_neg (by decide), if_neg (by decide), if_neg (by decide), if_neg (by decide), if_pos (by decide), dp, Option.bind_some, h5, dop', Option.bind_some, r1]; rfl
    refine ⟨s', hd, ?_⟩
    have ee : eff z 8 p M = if i.wt then z.wIT (repL (mkIns i.who i.nm (M.getD 23 0) (z.turns + 1) i.legs i.ag) z.ins) (z.turns + 1) else z.wIT (repL (mkIns i.who i.nm (M.getD 23 0) i.tn i.legs i.ag) z.ins) z.turns := by
      show (match z.opn p (sl M 15 8) with | some i => _ | none => z) = _
      rw [ho]
    rw [ee]
    cases c : i.wt with
    | true =>
      rw [c, if_pos rfl] at r2
      rw [if_pos rfl]
      exact DE.qk hB r3 r2 (by simp) (by simp) (by decide) (by decide)
    | false =>
      rw [c, if_neg (by decide)] at r2
      rw [if_neg (by decide)]
      exact DE.qk hB r3 r2 (by simp) (by simp) (by decide) (by decide)
theorem d_e9 (hB : MB s z) (hQ : MQu s z) (hO : okZ n z) (hok : okM 9 M) (hT : TXT (s.2.2.1 24) M.length M) (hp : p < z.mem.length) (h4 : s.1 4 = nI 9) (h5 : s.1 5 = nI p) (hc0 : cdF z (cds 9 M) = 0) : ∃ s', d_Mo_does s = some s' ∧ DE s s' (eff z 9 p M) := by
  obtain ⟨t1, t2, t3⟩ := d_two hB hO (by omega) hok hT
  have hm := hO.mem
  have hl' : M.length = 17 + 19 := hok.len
  have hf' : isD (sl M 19 15) = true := hok.ok
  have b1 := cdO_m (cdF_0 hc0 (false, sl M 15 4) (by simp [cds]))
  have hw := (fm_lt b1).1
  rw [b1] at t2
  have t2' : d_Mo_memberAt 15 s = some (nI (fmD z (sl M 15 4))) := t2
  obtain ⟨r, hr⟩ : ∃ r, r = 256 * p + fmD z (sl M 15 4) := ⟨_, rfl⟩
  have hr6 : r < 65536 := by omega
  have er : (256 : Int32) * nI p + nI (fmD z (sl M 15 4)) = nI r := by rw [hr, show (256 : Int32) = nI 256 from rfl, nI_mul, nI_add']
  have hlim := hO.lim r
  have eu : (if (0 : Int32) ≤ (lg_cmp (s.2.2.2 38 r) 0) then (some (0 : Int32)) else (some 1)) = some (if 0 ≤ z.lim r then 0 else 1) := by
    rw [hB.lim r hr6]
    by_cases c : 0 ≤ z.lim r
    · rw [if_pos ((cmp0_ge (by omega)).mpr c), if_pos c]
    · rw [if_neg (fun q => c ((cmp0_ge (by omega)).mp q)), if_neg c]
  have el : s.1 25 + (if 0 ≤ z.lim r then 0 else 1) = Int32.ofInt (if 0 ≤ z.lim r then z.lims else z.lims + 1) := by
    rw [hB.lims]
    by_cases c : 0 ≤ z.lim r
    · rw [if_pos c, if_pos c, show (0 : Int32) = Int32.ofInt 0 from rfl, i32_add, Int.add_zero]
    · rw [if_neg c, if_neg c, show (1 : Int32) = Int32.ofInt 1 from rfl, i32_add]
  obtain ⟨s1, hs1⟩ : ∃ s1, s1 = mI s 25 (Int32.ofInt (if 0 ≤ z.lim r then z.lims else z.lims + 1)) := ⟨_, rfl⟩
  have w1 : mX [25] [] [] [] s s1 := by rw [hs1]; exact mX.I mX.rf (by decide)
  have n1 : d_Mo_number 19 15 s1 = some (lI (num (sl M 19 15) : Nat)) := d_nmb (by rw [w1.2.2.1 24 (by simp)]; exact hT) (by omega) 19 15 (by omega) hf'
  obtain ⟨s', hs'⟩ : ∃ s', s' = mB s1 38 r (lI (num (sl M 19 15) : Nat)) := ⟨_, rfl⟩
  have w : mX [25] [] [] [38] s s' := by rw [hs', hs1]; exact mX.B (mX.I mX.rf (by decide)) (by decide)
  have ee : eff z 9 p M = z.uLim r (num (sl M 19 15)) (if 0 ≤ z.lim r then z.lims else z.lims + 1) := by rw [hr]; rfl
  rw [ee]
  have b' : MB s' (z.uLim r (num (sl M 19 15)) (if 0 ≤ z.lim r then z.lims else z.lims + 1)) := by rw [hs', hs1]; exact hB.uLim _ _ _
  refine ⟨s', ?_, DE.bk hQ w b' (by decide) (by simp) (by decide) rfl rfl⟩
  unfold d_Mo_does
  rw [t1, Option.bind_some, t2', Option.bind_some, h4, if_neg (by decide), if_neg (by decide), if_neg (by decide), if_neg (by decide), if_neg (by decide), if_neg (by decide), if_neg (by decide), if_neg (by decide), if_pos (by decide), h5, er, ix_N hr6 (by omega), Option.bind_some, eu, Option.bind_some, el, ← hs1, n1, Option.bind_some, ← hs']
theorem d_e10 (hB : MB s z) (hQ : MQu s z) (hO : okZ n z) (hok : okM 10 M) (hT : TXT (s.2.2.1 24) M.length M) (hp : p < z.mem.length) (h4 : s.1 4 = nI 10) (h5 : s.1 5 = nI p) (hc0 : cdF z (cds 10 M) = 0) : ∃ s', d_Mo_does s = some s' ∧ DE s s' (eff z 10 p M) := by
  obtain ⟨t1, t2, t3⟩ := d_two hB hO (by omega) hok hT
  have hm := hO.mem
  have b1 := cdO_m (cdF_0 hc0 (false, sl M 15 4) (by simp [cds]))
  have hw := (fm_lt b1).1
  rw [b1] at t2
  have t2' : d_Mo_memberAt 15 s = some (nI (fmD z (sl M 15 4))) := t2
  have er : (256 : Int32) * nI p + nI (fmD z (sl M 15 4)) = nI (256 * p + fmD z (sl M 15 4)) := by rw [show (256 : Int32) = nI 256 from rfl, nI_mul, nI_add']
  have el : s.1 25 - 1 = Int32.ofInt (z.lims - 1) := by rw [hB.lims, show (1 : Int32) = Int32.ofInt 1 from rfl, i32_sub]
  obtain ⟨s', hs'⟩ : ∃ s', s' = mB (mI s 25 (Int32.ofInt (z.lims - 1))) 38 (256 * p + fmD z (sl M 15 4)) (lI (-1)) := ⟨_, rfl⟩
  have w : mX [25] [] [] [38] s s' := by rw [hs']; exact mX.B (mX.I mX.rf (by decide)) (by decide)
  have b' : MB s' (eff z 10 p M) := by rw [hs']; exact hB.uLim _ _ _
  refine ⟨s', ?_, DE.bk hQ w b' (by decide) (by simp) (by decide) rfl rfl⟩
  unfold d_Mo_does
  rw [t1, Option.bind_some, t2', Option.bind_some, h4, if_neg (by decide), if_neg (by decide), if_neg (by decide), if_neg (by decide), if_neg (by decide), if_neg (by decide), if_neg (by decide), if_neg (by decide), if_neg (by decide), if_pos (by decide), h5, er, ix_N (by omega) (by omega), Option.bind_some, el, show Int64.ofNat 18446744073709551615 = lI (-1) from by decide, ← hs']
theorem d_e1112 (hB : MB s z) (hQ : MQu s z) (hO : okZ n z) (hk : k = 11 ∨ k = 12) (hok : okM k M) (hT : TXT (s.2.2.1 24) M.length M) (hp : p < z.mem.length) (h4 : s.1 4 = nI k) (h5 : s.1 5 = nI p) (hc0 : cdF z (cds k M) = 0) : ∃ s', d_Mo_does s = some s' ∧ DE s s' (eff z k p M) := by
  obtain ⟨t1, t2, t3⟩ := d_two hB hO (by omega) hok hT
  have hm := hO.mem
  have hla := hO.ast
  have hl' : M.length = 17 + 18 := by rcases hk with c | c <;> subst c <;> exact hok.len
  have hf' : isD (sl M 18 15) = true := by rcases hk with c | c <;> subst c <;> exact hok.ok
  have a1 : z.fa (sl M 15 3) = some (faD z (sl M 15 3)) := by rcases hk with c | c <;> subst c <;> exact cdO_a (cdF_0 hc0 (true, sl M 15 3) (by simp [cds]))
  have ha := fa_lt a1
  have n1 : d_Mo_number 18 15 s = some (lI (num (sl M 18 15) : Nat)) := d_nmb hT (by omega) 18 15 (by omega) hf'
  rw [a1] at t1
  have t1' : d_Mo_assetAt 15 s = some (nI (faD z (sl M 15 3))) := t1
  have er : (64 : Int32) * nI p + nI (faD z (sl M 15 3)) = nI (64 * p + faD z (sl M 15 3)) := by rw [show (64 : Int32) = nI 64 from rfl, nI_mul, nI_add']
  have mk : ∀ v : Int, DE s (mB s 32 (64 * p + faD z (sl M 15 3)) (lI v)) (z.uPl (64 * p + faD z (sl M 15 3)) v) := fun v => by
    have w : mX [] [] [] [32] s (mB s 32 (64 * p + faD z (sl M 15 3)) (lI v)) := mX.B mX.rf (by decide)
    exact DE.bk hQ w (hB.uPl _ _) (by simp) (by simp) (by decide) rfl rfl
  rcases hk with c | c
  · subst c
    refine ⟨_, ?_, mk (z.pl (64 * p + faD z (sl M 15 3)) + (num (sl M 18 15) : Int))⟩
    unfold d_Mo_does
    rw [t1', Option.bind_some, t2, Option.bind_some, h4, if_neg (by decide), if_neg (by decide), if_neg (by decide), if_neg (by decide), if_neg (by decide), if_neg (by decide), if_neg (by decide), if_neg (by decide), if_neg (by decide), if_neg (by decide), if_pos (by decide), h5, er, ix_N (by omega) (by omega), Option.bind_some, n1, Option.bind_some, hB.pl _ (by omega), lI_add]
  · subst c
    refine ⟨_, ?_, mk (z.pl (64 * p + faD z (sl M 15 3)) - (num (sl M 18 15) : Int))⟩
    unfold d_Mo_does
    rw [t1', Option.bind_some, t2, Option.bind_some, h4, if_neg (by decide), if_neg (by decide), if_neg (by decide), if_neg (by decide), if_neg (by decide), if_neg (by decide), if_neg (by decide), if_neg (by decide), if_neg (by decide), if_neg (by decide), if_neg (by decide), if_pos (by decide), h5, er, ix_N (by omega) (by omega), Option.bind_some, n1, Option.bind_some, hB.pl _ (by omega), lI_sub]
theorem d_eff (hB : MB s z) (hQ : MQu s z) (hO : okZ n z) (hk : k < 13) (hok : okM k M) (hT : TXT (s.2.2.1 24) M.length M) (hp : p < z.mem.length) (h4 : s.1 4 = nI k) (h5 : s.1 5 = nI p) (hc0 : cdF z (cds k M) = 0) (hv : vMat z k p M = 0) : ∃ s', d_Mo_does s = some s' ∧ DE s s' (eff z k p M) := by
  have hc : k = 0 ∨ k = 1 ∨ k = 2 ∨ (k = 3 ∨ k = 4) ∨ k = 5 ∨ k = 6 ∨ k = 7 ∨ k = 8 ∨ k = 9 ∨ k = 10 ∨ (k = 11 ∨ k = 12) := by omega
  rcases hc with c | c | c | c | c | c | c | c | c | c | c
  · subst c; exact d_e0 hB hQ hO hok hT h4 hv
  · subst c; exact d_e1 hB hQ hO hok hT h4 hv
  · subst c; exact d_e2 hB hQ hO hok hT h4 hc0
  · exact d_e34 hB hQ hO c hok hT h4 hc0
  · subst c; exact d_e5 hB hQ hO hok hT hp h4 h5 hc0 hv
  · subst c; exact d_e6 hB hQ hO hok hT hp h4 h5 hc0 hv
  · subst c; exact d_e7 hB hQ hO hok hT hp h4 h5 hv
  · subst c; exact d_e8 hB hQ hO hok hT hp h4 h5 hv
  · subst c; exact d_e9 hB hQ hO hok hT hp h4 h5 hc0
  · subst c; exact d_e10 hB hQ hO hok hT hp h4 h5 hc0
  · exact d_e1112 hB hQ hO c hok hT hp h4 h5 hc0
end
