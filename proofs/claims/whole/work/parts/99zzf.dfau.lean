/-! The verdict: the reference. -/
def d_jph (s : mS) : Option (Int32 × mS) := (d_Mo_isTime s).bind fun q63 => (if ¬ (q63 : Int32) = 0 then ((d_Mo_isKept s).bind fun q75 => (if (q75 : Int32) = 0 then ((d_Mo_ownFault s).bind fun q87 => (some (q87.1, q87.2))) else (if ¬ ((s.1 30) : Int32) = 2000 then ((d_Mo_ownFault s).bind fun q97 => (some (q97.1, q97.2))) else (some (12, s))))) else (some (7, s)))
def d_jtx (p : Int32) (s : mS) : Option (Int32 × mS) := (d_Mo_isKept s).bind fun q51 => (if (q51 : Int32) = 0 then d_jph s else ((d_Mo_packed 7 8 s).bind fun q106 => ((d_Mo_textOf p q106 s).bind fun q117 => (if (q117 : Int32) < 0 then d_jph s else ((d_Mo_isVery q117 s).bind fun q172 => (if (q172 : Int32) = 0 then (some (6, s)) else (some ((-1), s))))))))
def d_jrs (p : Int32) (s : mS) : Option (Int32 × mS) := (d_Mo_codeFault s).bind fun q39 => (if (q39 : Int32) ≤ 0 then d_jtx p s else (some (q39, s)))
theorem d_fault_eq (s : mS) : d_Mo_fault s = (d_Mo_isMessage s).bind fun q1 => (if ¬ (q1.1 : Int32) = 0 then ((d_Mo_memberAt 3 q1.2).bind fun q11 => (if (0 : Int32) ≤ q11 then ((d_Mo_ofBank (mI q1.2 5 q11)).bind fun q27 => (if (q27 : Int32) = 0 then d_jrs q11 (mI q1.2 5 q11) else (if (q11 : Int32) = 0 then d_jrs q11 (mI q1.2 5 q11) else (some (3, (mI q1.2 5 q11)))))) else (some (2, (mI q1.2 5 q11))))) else (some (1, q1.2))) := rfl
theorem MB.x5 {ki kl ka kb : List Nat} {s s' : mS} {z : Z} (h : MB s z) (w : mX ki kl ka kb s s') (h1 : 10 ∉ ki ∧ 15 ∉ ki ∧ 16 ∉ ki ∧ 25 ∉ ki) (h2 : 28 ∉ ka ∧ 30 ∉ ka ∧ 36 ∉ ka) (h3 : ∀ k ∈ kb, k < 26 ∨ 38 < k) : MB s' z := by
  have hb : ∀ k, 26 ≤ k → k ≤ 38 → s'.2.2.2 k = s.2.2.2 k := fun k k1 k2 => w.2.2.2 k (fun c => by have := h3 k c; omega)
  refine ⟨by rw [w.1 10 h1.1]; exact h.mem, fun k c hc => by rw [hb 26 (by omega) (by omega)]; exact h.cod k c hc, by rw [w.1 15 h1.2.1]; exact h.asn, fun k x hx => ?_, by rw [w.1 16 h1.2.2.1]; exact h.fir, by rw [hb 31 (by omega) (by omega)]; exact h.pos, by rw [hb 32 (by omega) (by omega)]; exact h.pl, by rw [hb 33 (by omega) (by omega)]; exact h.beg, by rw [hb 34 (by omega) (by omega)]; exact h.wnt, by rw [hb 35 (by omega) (by omega)]; exact h.cam, by rw [w.2.2.1 36 h2.2.2]; exact h.mv, by rw [hb 37 (by omega) (by omega)]; exact h.paid, by rw [hb 38 (by omega) (by omega)]; exact h.lim, by rw [w.1 25 h1.2.2.2]; exact h.lims⟩
  rw [hb 27 (by omega) (by omega), w.2.2.1 28 h2.1, hb 29 (by omega) (by omega), w.2.2.1 30 h2.2.1]
  exact h.asc k x hx
theorem MQu.x5 {ki kl ka kb : List Nat} {s s' : mS} {z : Z} (h : MQu s z) (w : mX ki kl ka kb s s') (h1 : 31 ∉ ki) (h2 : ∀ k ∈ ka, k < 43 ∨ 54 < k) (h3 : ∀ k ∈ kb, k < 43 ∨ 54 < k) (h4 : 45 ∉ kl) : MQu s' z := by
  have ha : ∀ k, 43 ≤ k → k ≤ 54 → s'.2.2.1 k = s.2.2.1 k := fun k k1 k2 => w.2.2.1 k (fun c => by have := h2 k c; omega)
  have hb : ∀ k, 43 ≤ k → k ≤ 54 → s'.2.2.2 k = s.2.2.2 k := fun k k1 k2 => w.2.2.2 k (fun c => by have := h3 k c; omega)
  refine ⟨by rw [w.1 31 h1]; exact h.many, fun k i hk => ?_, by rw [w.2.1 45 h4]; exact h.turns⟩
  have m := h.ins k i hk
  refine ⟨by rw [ha 43 (by omega) (by omega)]; exact m.who, by rw [ha 44 (by omega) (by omega)]; exact m.pr, by rw [ha 45 (by omega) (by omega)]; exact m.len, by rw [hb 46 (by omega) (by omega)]; exact m.nm, by rw [hb 47 (by omega) (by omega)]; exact m.tn, by rw [ha 48 (by omega) (by omega)]; exact m.wt, ?_⟩
  rw [ha 50 (by omega) (by omega), ha 51 (by omega) (by omega), ha 52 (by omega) (by omega), hb 53 (by omega) (by omega), ha 54 (by omega) (by omega)]
  exact m.lg
section
variable {n : Nat} {s : mS} {z : Z} {k p : Nat} {M : List Nat}
theorem d_jph_ok (hB : MB s z) (hQ : MQu s z) (hO : okZ n z) (hG : good z) (hn : n ≤ 512) (hX : MXt s z.txs) (hT0 : okT n z) (hk : k < 15) (hok : okM k M) (hT : TXT (s.2.2.1 24) M.length M) (hp : p < z.mem.length) (h4 : s.1 4 = nI k) (h5 : s.1 5 = nI p) (h56 : s.1 56 = nI z.tick) (hc0 : cdF z (cds k M) = 0) : d_jph s = some (vPh z k p M, s) := by
  have hm := d_mat hB hQ hO hG hn hk hok hT hp h4 h5 hc0
  have hN := hok.l123
  have hfo : k = 5 → l_Mo_isTime_149 100000 1 0 s = some (b2i (foB z (legsZ z M))) := fun e => by
    subst e
    obtain ⟨f1, f2, f3, f4⟩ := hok.l5
    have := d_fo_loop hB hO hT (by omega) (ls := legsZ z M) (by rw [legsZ_len]; omega) (by rw [legsZ_len]; omega) (legsZ_R hok hc0) (by rw [legsZ_len]; exact (dig_sub hT (by omega) (by omega)).1) _ 100000 0 true rfl (by rw [legsZ_len]; omega) (by omega)
    rw [List.drop_zero, Bool.true_and] at this
    exact this
  have ht := d_time (pr := M.getD 15 0) hk h4 hO.tick h56 (fun e => by
    subst e
    obtain ⟨f1, f2, f3, f4⟩ := hok.l5
    exact ⟨(dig_sub hT (by omega) (by omega)).2, by omega⟩) hfo
  have hkp := d_kpt hk h4
  have hmt : ((d_Mo_ownFault s).bind fun q62 => (some (q62.1, q62.2))) = some (nI (vMat z k p M), s) := by rw [hm]; rfl
  have hts := hT0.1
  unfold d_jph vPh
  rw [ht, Option.bind_some]
  cases c1 : inT k z.tick (M.getD 15 0) (foB z (legsZ z M)) with
  | false => rw [if_neg (by decide), if_pos rfl]
  | true =>
    rw [if_pos (by decide), hkp, Option.bind_some, if_neg (show ¬ (true = false) by decide), if_neg (show ¬ (kpt k = true ∧ z.txs.length = 2000) from fun c => by omega)]
    cases kpt k with
    | false => rw [if_pos (by decide)]; exact hmt
    | true =>
      rw [if_neg (by decide), hX.1.1, if_pos (show ¬ nI z.txs.length = (2000 : Int32) from fun c => by have := nI_inj (b := 2000) (by omega) (by omega) c; omega)]
      exact hmt
theorem d_jtx_ok (hB : MB s z) (hQ : MQu s z) (hO : okZ n z) (hG : good z) (hn : n ≤ 512) (hX : MXt s z.txs) (hT0 : okT n z) (hk : k < 15) (hok : okM k M) (hT : TXT (s.2.2.1 24) M.length M) (hp : p < z.mem.length) (h3 : s.1 3 = nI M.length) (h4 : s.1 4 = nI k) (h5 : s.1 5 = nI p) (h56 : s.1 56 = nI z.tick) (hc0 : cdF z (cds k M) = 0) : d_jtx (nI p) s = some (vTx z k p M, s) := by
  have hN := hok.l123
  have hm := hO.mem
  have ph := d_jph_ok hB hQ hO hG hn hX hT0 hk hok hT hp h4 h5 h56 hc0
  have hkp := d_kpt hk h4
  have hts := hT0.1
  unfold d_jtx vTx txO
  rw [hkp, Option.bind_some]
  cases kpt k with
  | false => rw [if_pos (by decide)]; exact ph
  | true =>
    have dp : d_Mo_packed 7 8 s = some (lI (b256 (sl M 7 8) : Nat)) := d_pck hT (by omega) 7 8 (by omega) (by omega)
    have hx := d_text_loop hX.1 (by omega) (fun t ht => ⟨(hT0.2 t ht).1, (hT0.2 t ht).2.1, (hT0.2 t ht).2.2.1⟩) (w := p) (nm := sl M 7 8) (by omega) (sl_len (by omega)) (sl_36 hT.m36 _ _) _ 100000 0 rfl (by omega) (by omega)
    rw [List.drop_zero] at hx
    have hx' : d_Mo_textOf (nI p) (lI (b256 (sl M 7 8) : Nat)) s = some (oI (txK p (sl M 7 8) 0 z.txs)) := hx
    rw [if_neg (by decide), dp, Option.bind_some, hx', Option.bind_some, if_pos (rfl : true = true)]
    cases c : txK p (sl M 7 8) 0 z.txs with
    | none => rw [if_pos (show oI none < (0 : Int32) by decide)]; exact ph
    | some j =>
      obtain ⟨t, t1, _⟩ := txK_some c
      rw [Nat.sub_zero] at t1
      have hj := get_lt' t1
      have hbl := (hT0.2 t (List.mem_of_getElem? t1)).2.2.2
      have sm := d_very hX (by omega) t1 hbl (byt_get hT) (by rw [byt_len]; omega) (by rw [byt_len]; exact h3)
      have tb : txB z j = t.bs := by unfold txB; rw [t1]
      have e1 : oI (some j) = nI j := rfl
      rw [e1, if_neg (nI_neg1 (by omega)), sm, Option.bind_some]
      show _ = some ((if txB z j = byt M then -1 else 6), s)
      rw [tb]
      by_cases c : t.bs = byt M
      · rw [decide_eq_true c, if_neg (by decide), if_pos c]
      · rw [decide_eq_false c, if_pos (by decide), if_neg c]
theorem d_jrs_ok (hB : MB s z) (hQ : MQu s z) (hO : okZ n z) (hG : good z) (hn : n ≤ 512) (hX : MXt s z.txs) (hT0 : okT n z) (hk : k < 15) (hok : okM k M) (hT : TXT (s.2.2.1 24) M.length M) (hp : p < z.mem.length) (h3 : s.1 3 = nI M.length) (h4 : s.1 4 = nI k) (h5 : s.1 5 = nI p) (h56 : s.1 56 = nI z.tick) : d_jrs (nI p) s = some (vRs z k p M, s) := by
  have hN := hok.l123
  have hcl : cdF z (cds k M) < 6 := cdF_lt _ _
  have dc := d_codes hB hO hT (by omega) hk h4 hok.len (fun e => by
    subst e
    obtain ⟨f1, f2, f3, f4⟩ := hok.l5
    exact ⟨by omega, (dig_sub hT (by omega) (by omega)).1⟩)
  unfold d_jrs vRs
  rw [dc, Option.bind_some]
  by_cases c0 : cdF z (cds k M) = 0
  · rw [if_pos (show nI (cdF z (cds k M)) ≤ 0 from by rw [c0]; decide), if_pos c0]
    exact d_jtx_ok hB hQ hO hG hn hX hT0 hk hok hT hp h3 h4 h5 h56 c0
  · rw [if_neg (show ¬ nI (cdF z (cds k M)) ≤ (0 : Int32) from nI_ngt (b := 0) (by omega) (by omega) (by omega)), if_neg c0]
theorem d_fault (hB : MB s z) (hQ : MQu s z) (hO : okZ n z) (hG : good z) (hn : n ≤ 512) (hX : MXt s z.txs) (hT0 : okT n z) {N : Nat} (hN : 1 ≤ N ∧ N ≤ 400) (h3 : s.1 3 = nI N) (h56 : s.1 56 = nI z.tick) : ∃ V s', d_Mo_fault s = some (V, s') ∧ mX [4, 5] [] [] [] s s' ∧ ((V = 1 ∧ ∀ M k, TXT (s.2.2.1 24) N M → ¬ okM k M) ∨ ∃ M k, TXT (s.2.2.1 24) N M ∧ okM k M ∧ V = vAll z k M ∧ s'.1 4 = nI k ∧ (vAll z k M = 0 → ∃ p, z.fm (sl M 3 4) = some p ∧ s'.1 5 = nI p)) := by
  have hm := hO.mem
  obtain ⟨r, s1, r1, w1, r3⟩ := d_msg h3 hN
  rw [d_fault_eq, r1, Option.bind_some]
  rcases r3 with ⟨rfl, r4⟩ | ⟨rfl, M, k, r4, r5, r6⟩
  · exact ⟨1, s1, by rw [if_neg (show ¬ ¬ (0 : Int32) = 0 by decide)], w1.mono (by decide) (by simp) (by simp) (by simp), Or.inl ⟨rfl, r4⟩⟩
  · have hk : k < 15 := r5.1.1
    have hlM := r5.l123
    have hlen := r4.len
    have B1 : MB s1 z := hB.x5 w1 (by decide) (by simp) (by simp)
    have Q1 : MQu s1 z := hQ.x5 w1 (by decide) (by simp) (by simp) (by simp)
    have X1 : MXt s1 z.txs := hX.x w1 (by decide) (by simp) (by simp)
    have T1 : TXT (s1.2.2.1 24) M.length M := by rw [w1.2.2.1 24 (by simp), hlen]; exact r4
    have dm : d_Mo_memberAt 3 s1 = some (oI (z.fm (sl M 3 4))) := d_mem T1 (by omega) B1 hm.2 hO.cod 3 (by omega)
    rw [if_pos (show ¬ (1 : Int32) = 0 by decide), dm, Option.bind_some]
    have wI : ∀ v : Int32, mX [4, 5] [] [] [] s (mI s1 5 v) := fun v => (w1.mono (by decide) (by simp) (by simp) (by simp)).tr (mX.I mX.rf (by decide))
    have wJ : ∀ v : Int32, mX [5] [] [] [] s1 (mI s1 5 v) := fun v => mX.I mX.rf (by decide)
    have k4 : ∀ v : Int32, (mI s1 5 v).1 4 = nI k := fun v => r6
    cases hz : z.fm (sl M 3 4) with
    | none =>
      refine ⟨2, mI s1 5 (-1), by rw [if_neg (by decide)]; rfl, wI _, Or.inr ⟨M, k, r4, r5, ?_, k4 _, fun c => ?_⟩⟩
      · unfold vAll; rw [hz]
      · unfold vAll at c; rw [hz] at c; exact absurd (show (2 : Int32) = 0 from c) (by decide)
    | some p =>
      have hp := (fm_lt hz).1
      have e1 : oI (some p) = nI p := rfl
      obtain ⟨s2, hs2⟩ : ∃ s2, s2 = mI s1 5 (nI p) := ⟨_, rfl⟩
      have w2 : mX [5] [] [] [] s1 s2 := by rw [hs2]; exact wJ _
      have h5 : s2.1 5 = nI p := by rw [hs2]; simp [mI, va_up]
      have h4 : s2.1 4 = nI k := by rw [w2.1 4 (by decide)]; exact r6
      have rs := d_jrs_ok (B1.x5 w2 (by decide) (by simp) (by simp)) (Q1.x5 w2 (by decide) (by simp) (by simp) (by simp)) hO hG hn (X1.x w2 (by decide) (by simp) (by simp)) hT0 hk r5 (by rw [w2.2.2.1 24 (by simp)]; exact T1) hp (by rw [w2.1 3 (by decide), w1.1 3 (by decide), h3, hlen]) h4 h5 (by rw [w2.1 56 (by decide), w1.1 56 (by decide)]; exact h56)
      have vA : vAll z k M = if ofB k = true ∧ p ≠ 0 then 3 else vRs z k p M := by unfold vAll; rw [hz]
      refine ⟨vAll z k M, s2, ?_, by rw [hs2]; exact wI _, Or.inr ⟨M, k, r4, r5, rfl, h4, fun _ => ⟨p, hz, h5⟩⟩⟩
      rw [e1, if_pos (show (0 : Int32) ≤ nI p from nI_le0 (a := 0) (by omega) (by omega) (by omega)), ← hs2, d_ofB hk h4, Option.bind_some, vA]
      by_cases c : ofB k = true ∧ p ≠ 0
      · rw [c.1, if_neg (by decide), if_neg (show ¬ nI p = (0 : Int32) from fun q => c.2 ((nI_e0 (by omega)).mp q)), if_pos ⟨rfl, c.2⟩]
      · rw [if_neg c]
        cases ho : ofB k with
        | false => rw [if_pos (by decide)]; exact rs
        | true =>
          have hp0 : p = 0 := Classical.byContradiction (fun q => c ⟨ho, q⟩)
          rw [if_neg (by decide), if_pos (show nI p = (0 : Int32) from (nI_e0 (by omega)).mpr hp0)]; exact rs
end
