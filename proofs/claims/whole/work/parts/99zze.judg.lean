/-! What the message's judging and doing leave alone. -/
def KP (S S' : hS) : Prop := (hE S.1 S'.1) ∧ (S'.2.1 1 0 = S.2.1 1 0) ∧ (S'.2.1 503 20 = S.2.1 503 20) ∧ (S'.2.1 504 20 = S.2.1 504 20) ∧ (S'.2.1 600 9 = S.2.1 600 9) ∧ (S'.2.1 601 9 = S.2.1 601 9) ∧ (S'.2.1 602 9 = S.2.1 602 9) ∧ (S'.2.1 603 9 = S.2.1 603 9) ∧ (S'.2.2.2.2.1 1 = S.2.2.2.2.1 1)
theorem KP.sh {S S' : hS} (h : KP S S') : hE S.1 S'.1 := h.1
theorem KP.i1 {S S' : hS} (h : KP S S') : S'.2.1 1 0 = S.2.1 1 0 := h.2.1
theorem KP.i503 {S S' : hS} (h : KP S S') : S'.2.1 503 20 = S.2.1 503 20 := h.2.2.1
theorem KP.i504 {S S' : hS} (h : KP S S') : S'.2.1 504 20 = S.2.1 504 20 := h.2.2.2.1
theorem KP.i600 {S S' : hS} (h : KP S S') : S'.2.1 600 9 = S.2.1 600 9 := h.2.2.2.2.1
theorem KP.i601 {S S' : hS} (h : KP S S') : S'.2.1 601 9 = S.2.1 601 9 := h.2.2.2.2.2.1
theorem KP.i602 {S S' : hS} (h : KP S S') : S'.2.1 602 9 = S.2.1 602 9 := h.2.2.2.2.2.2.1
theorem KP.i603 {S S' : hS} (h : KP S S') : S'.2.1 603 9 = S.2.1 603 9 := h.2.2.2.2.2.2.2.1
theorem KP.a1 {S S' : hS} (h : KP S S') : S'.2.2.2.2.1 1 = S.2.2.2.2.1 1 := h.2.2.2.2.2.2.2.2
def KA (S S' : hS) : Prop := (S'.2.1 201 7 = S.2.1 201 7) ∧ (S'.2.1 202 7 = S.2.1 202 7) ∧ (S'.2.2.2.2.1 8 = S.2.2.2.2.1 8)
theorem KA.i201 {S S' : hS} (h : KA S S') : S'.2.1 201 7 = S.2.1 201 7 := h.1
theorem KA.i202 {S S' : hS} (h : KA S S') : S'.2.1 202 7 = S.2.1 202 7 := h.2.1
theorem KA.a8 {S S' : hS} (h : KA S S') : S'.2.2.2.2.1 8 = S.2.2.2.2.1 8 := h.2.2
theorem KP.rf {S : hS} : KP S S := ⟨hE.rf, rfl, rfl, rfl, rfl, rfl, rfl, rfl, rfl⟩
theorem KA.rf {S : hS} : KA S S := ⟨rfl, rfl, rfl⟩
theorem KP.tr {S S' S'' : hS} (h1 : KP S S') (h2 : KP S' S'') : KP S S'' := ⟨h1.sh.tr h2.sh, h2.i1.trans h1.i1, h2.i503.trans h1.i503, h2.i504.trans h1.i504, h2.i600.trans h1.i600, h2.i601.trans h1.i601, h2.i602.trans h1.i602, h2.i603.trans h1.i603, h2.a1.trans h1.a1⟩
theorem KA.tr {S S' S'' : hS} (h1 : KA S S') (h2 : KA S' S'') : KA S S'' := ⟨h2.i201.trans h1.i201, h2.i202.trans h1.i202, h2.a8.trans h1.a8⟩
theorem KP.ofX {ki kl kr ka kb kq : List Nat} {S S' : hS} (w : hX ki kl kr ka kb kq S S') (h : ∀ k ∈ [1, 503, 504, 600, 601, 602, 603], k ∉ ki) (h1 : 1 ∉ ka) : KP S S' := ⟨by rw [w.sh]; exact hE.rf, w.ei _ (h _ (by decide)) _, w.ei _ (h _ (by decide)) _, w.ei _ (h _ (by decide)) _, w.ei _ (h _ (by decide)) _, w.ei _ (h _ (by decide)) _, w.ei _ (h _ (by decide)) _, w.ei _ (h _ (by decide)) _, w.a 1 h1⟩
theorem KA.ofX {ki kl kr ka kb kq : List Nat} {S S' : hS} (w : hX ki kl kr ka kb kq S S') (h : 201 ∉ ki ∧ 202 ∉ ki) (h1 : 8 ∉ ka) : KA S S' := ⟨w.ei _ h.1 _, w.ei _ h.2 _, w.a 8 h1⟩
theorem KP.ofB {S S' : hS} (hf : hE hs_fix S.1) (w : BF S S') : KP S S' := by
  have h60 : 59 < S.1.length := fix_lt hf (by omega)
  exact ⟨w.sh, w.i _ _ (by decide) (by omega), w.i _ _ (by decide) (by omega), w.i _ _ (by decide) (by omega), w.i _ _ (by decide) (by omega), w.i _ _ (by decide) (by omega), w.i _ _ (by decide) (by omega), w.i _ _ (by decide) (by omega), w.a 1 (by omega)⟩
theorem KA.ofB {S S' : hS} (hf : hE hs_fix S.1) (w : BF S S') : KA S S' := by
  have h60 : 59 < S.1.length := fix_lt hf (by omega)
  exact ⟨w.i _ _ (by decide) (by omega), w.i _ _ (by decide) (by omega), w.a 8 (by omega)⟩
theorem KP.ofK {S S' : hS} (hf : hE hs_fix S.1) (hsh : hE S.1 S'.1) (w : KF S S') : KP S S' := by
  have h60 : 59 < S.1.length := fix_lt hf (by omega)
  exact ⟨hsh, w.i _ _ (by omega) (by omega), w.i _ _ (by omega) (by omega), w.i _ _ (by omega) (by omega), w.i _ _ (by omega) (by omega), w.i _ _ (by omega) (by omega), w.i _ _ (by omega) (by omega), w.i _ _ (by omega) (by omega), w.a 1 (by omega)⟩
theorem KA.ofK {S S' : hS} (hf : hE hs_fix S.1) (w : KF S S') : KA S S' := by
  have h60 : 59 < S.1.length := fix_lt hf (by omega)
  exact ⟨w.i _ _ (by omega) (by omega), w.i _ _ (by omega) (by omega), w.a 8 (by omega)⟩
theorem cdF_lt (z : Z) : ∀ cs : List (Bool × List Nat), cdF z cs < 6 := by
  intro cs
  induction cs with
  | nil => unfold cdF; omega
  | cons c l ih =>
    unfold cdF
    cases cdO z c with
    | none =>
      show (if c.1 = true then 5 else 4) < 6
      split <;> omega
    | some v => exact ih
theorem cds_ok {k : Nat} {M : List Nat} (hok : okM k M) (h36 : is36 M) : (cds k M).length ≤ 12 ∧ ∀ c ∈ cds k M, c.2.length = (if c.1 then 3 else 4) ∧ is36 c.2 := by
  have hl := hok.len
  by_cases c5 : k = 5
  · subst c5
    obtain ⟨f1, f2, f3, f4⟩ := hok.l5
    refine ⟨by show (legsC M (M.getD 16 0)).length ≤ 12; rw [legsC_len]; omega, fun c hc => ?_⟩
    obtain ⟨t, ht⟩ := List.mem_iff_getElem?.mp hc
    have ht' : (legsC M (M.getD 16 0))[t]? = some c := ht
    have hlt := get_lt' ht'
    rw [legsC_len] at hlt
    obtain ⟨g1, g2, g3⟩ := legsC_get M (M.getD 16 0) (t / 3) (by omega)
    have hd : t = 3 * (t / 3) ∨ t = 3 * (t / 3) + 1 ∨ t = 3 * (t / 3) + 2 := by omega
    rcases hd with e | e | e
    · rw [e, g1] at ht'; cases ht'
      exact ⟨sl_len (by omega), sl_36 h36 _ _⟩
    · rw [e, g2] at ht'; cases ht'
      exact ⟨sl_len (by omega), sl_36 h36 _ _⟩
    · rw [e, g3] at ht'; cases ht'
      exact ⟨sl_len (by omega), sl_36 h36 _ _⟩
  · have hc : k = 2 ∨ k = 3 ∨ k = 4 ∨ k = 6 ∨ k = 9 ∨ k = 10 ∨ k = 11 ∨ k = 12 ∨ (k ≠ 2 ∧ k ≠ 3 ∧ k ≠ 4 ∧ k ≠ 6 ∧ k ≠ 9 ∧ k ≠ 10 ∧ k ≠ 11 ∧ k ≠ 12) := by omega
    have h1 : ∀ (b : Bool) (c : List Nat), c.length = (if b then 3 else 4) → is36 c → (([(b, c)] : List (Bool × List Nat)).length ≤ 12 ∧ ∀ d ∈ [(b, c)], d.2.length = (if d.1 then 3 else 4) ∧ is36 d.2) := fun b c e1 e2 => ⟨by show 1 ≤ 12; omega, fun d hd => by rw [List.mem_singleton] at hd; rw [hd]; exact ⟨e1, e2⟩⟩
    have h2 : ∀ (b b' : Bool) (c c' : List Nat), c.length = (if b then 3 else 4) → is36 c → c'.length = (if b' then 3 else 4) → is36 c' → (([(b, c), (b', c')] : List (Bool × List Nat)).length ≤ 12 ∧ ∀ d ∈ [(b, c), (b', c')], d.2.length = (if d.1 then 3 else 4) ∧ is36 d.2) := fun b b' c c' e1 e2 e3 e4 => ⟨by show 2 ≤ 12; omega, fun d hd => by
      rcases List.mem_cons.mp hd with q | q
      · rw [q]; exact ⟨e1, e2⟩
      · rw [List.mem_singleton] at q; rw [q]; exact ⟨e3, e4⟩⟩
    rcases hc with rfl | rfl | rfl | rfl | rfl | rfl | rfl | rfl | hc
    · have hl' : M.length = 17 + 20 := hl
      exact h1 true _ (sl_len (by omega)) (sl_36 h36 _ _)
    · have hl' : M.length = 17 + 22 := hl
      exact h2 true false _ _ (sl_len (by omega)) (sl_36 h36 _ _) (sl_len (by omega)) (sl_36 h36 _ _)
    · have hl' : M.length = 17 + 22 := hl
      exact h2 true false _ _ (sl_len (by omega)) (sl_36 h36 _ _) (sl_len (by omega)) (sl_36 h36 _ _)
    · have hl' : M.length = 17 + 12 := hl
      exact h1 false _ (sl_len (by omega)) (sl_36 h36 _ _)
    · have hl' : M.length = 17 + 19 := hl
      exact h1 false _ (sl_len (by omega)) (sl_36 h36 _ _)
    · have hl' : M.length = 17 + 4 := hl
      exact h1 false _ (sl_len (by omega)) (sl_36 h36 _ _)
    · have hl' : M.length = 17 + 18 := hl
      exact h1 true _ (sl_len (by omega)) (sl_36 h36 _ _)
    · have hl' : M.length = 17 + 18 := hl
      exact h1 true _ (sl_len (by omega)) (sl_36 h36 _ _)
    · have : cds k M = [] := by
        unfold cds
        split <;> first | rfl | omega
      rw [this]
      exact ⟨Nat.zero_le _, fun c hc => by cases hc⟩
section
variable {n : Nat} {S : hS} {z : Z} {g : hG} {q u : List Ins} {L : Nat} {es : List (Ins × Bool)} {k p : Nat} {M : List Nat}
theorem MSG.mg {S' : hS} (hms : MSG S k M) (hi : ∀ j, 801 ≤ j → j ≤ 817 → j ≠ 813 → S'.2.1 j 2 = S.2.1 j 2) (hl : S'.2.2.1 806 2 = S.2.2.1 806 2) (hl2 : S'.2.2.1 818 2 = S.2.2.1 818 2) (hb : S'.2.2.2.2.2.1 6 = S.2.2.2.2.2.1 6) (e813 : S'.2.1 813 2 = nI p) (fd : ∀ (t : Nat) (c : Bool × List Nat), (cds k M)[t]? = some c → ∃ v, cdO z c = some v ∧ S'.2.2.2.2.1 5 t = nI v) : MG S' z k p M := by
  obtain ⟨m1, m2, m3, m4, ⟨a, _, _, _, m5, m6⟩, m7⟩ := hms
  exact ⟨by rw [hi 801 (by omega) (by omega) (by omega)]; exact m1, by rw [hi 804 (by omega) (by omega) (by omega)]; exact m2, by rw [hi 805 (by omega) (by omega) (by omega)]; exact m3, by rw [hl]; exact m4, e813, by rw [hi 812 (by omega) (by omega) (by omega)]; exact m5, fun j d hd => by rw [hb]; exact m6 j d hd, m7.fr (fun j h1 h2 => hi j (by omega) h2 (by omega)) hl2, fd⟩
theorem h_jrs_ok (h : HZ S z g q u L es) (hO : okZ n z) (hn : n ≤ 512) (hC : HTx S z.txs) (hT0 : okT n z) (hk : k < 15) (hok : okM k M) (hT : TXT (S.2.2.2.2.1 1) M.length M) (hp : p < z.mem.length) (hms : MSG S k M) (e813 : S.2.1 813 2 = nI p) (h504 : S.2.1 504 20 = nI z.tick) (hlen : S.1.length < am_M) : ∃ S1 S' g', h_jrs S = some (vRs z k p M, S') ∧ hX [] [] [] [5] [] [] S S1 ∧ GR S1 S' z g g' ∧ S'.1.length ≤ S.1.length + 1 ∧ (cdF z (cds k M) = 0 → MG S1 z k p M) := by
  obtain ⟨c1, c2⟩ := cds_ok hok hT.m36
  have hms' := hms
  obtain ⟨_, _, _, _, ⟨a, _, m5, m6, _, _⟩, _⟩ := hms'
  obtain ⟨S1, r1, w, r3⟩ := h_codes h.B hO c1 c2 m5 m6
  have hM1 : S.1.length ≤ am_M + 1 := by omega
  have h1 : HZ S1 z g q u L es := h.w (GW.ofX w (by simp) (by simp) (by simp) (by decide) (by simp) rfl)
  have hC1 : HTx S1 z.txs := hC.x hM1 w (by simp) (by simp) (by simp) (fun k hk => Or.inl (by have e : k = 5 := (by simpa using hk); omega)) (by simp)
  have hl1 : S1.1.length = S.1.length := by rw [w.sh]
  have hcl : cdF z (cds k M) < 6 := cdF_lt _ _
  unfold h_jrs vRs
  rw [r1, Option.bind_some]
  by_cases c0 : cdF z (cds k M) = 0
  · have m : MG S1 z k p M := hms.mg (fun j _ _ _ => w.ei _ (by simp) _) (w.el _ (by simp) _) (w.el _ (by simp) _) (w.b 6 (by simp)) (by rw [w.ei 813 (by simp)]; exact e813) (r3 c0)
    obtain ⟨S', g', t1, t2, t3⟩ := h_jtx_ok h1 hO hn hC1 hT0 hk hok (by rw [w.a 1 (by decide)]; exact hT) hp m (by rw [w.ei 504 (by simp)]; exact h504) (by omega)
    refine ⟨S1, S', g', ?_, w, t2, by omega, fun _ => m⟩
    rw [if_pos (show nI (cdF z (cds k M)) = 0 from by rw [c0]; rfl), if_pos c0]; exact t1
  · refine ⟨S1, S1, g, ?_, w, GR.rf h1.B, by omega, fun c => absurd c c0⟩
    rw [if_neg (show ¬ nI (cdF z (cds k M)) = 0 from fun c => c0 ((nI_e0 (by omega)).mp c)), if_neg c0]
theorem h_judge (h : HZ S z g q u L es) (hO : okZ n z) (hn : n ≤ 512) (hC : HTx S z.txs) (hT0 : okT n z) (hk : k < 15) (hok : okM k M) (hT : TXT (S.2.2.2.2.1 1) M.length M) (hms : MSG S k M) (h504 : S.2.1 504 20 = nI z.tick) (hlen : S.1.length < am_M) : ∃ S' g', h_De_judge S = some (vAll z k M, S') ∧ HZ S' z g' q u L es ∧ HTx S' z.txs ∧ KP S S' ∧ KA S S' ∧ S'.1.length ≤ S.1.length + 1 ∧ S'.2.1 804 2 = nI k ∧ (vAll z k M = 0 → ∃ p, z.fm (sl M 3 4) = some p ∧ ¬ (ofB k = true ∧ p ≠ 0) ∧ vRs z k p M = 0 ∧ MG S' z k p M) := by
  have hm := hO.mem
  have hN := hok.l123
  have hf := h.B.fix
  have h60 : 59 < S.1.length := fix_lt hf (by omega)
  have fd := h_findP h.B hm.2 hO.cod (c := sl M 3 4) (sl_len (by omega)) (sl_36 hT.m36 _ _)
  have e804 : S.2.1 804 2 = nI k := hms.2.1
  -- what is put first
  have w1 : ∀ v : Int32, hX [813] [] [] [] [] [] S (hpI S 813 2 v) := fun v => hX.pI hX.rf (by decide)
  have wz : ∀ v : Int32, HZ (hpI S 813 2 v) z g q u L es := fun v => h.w (GW.ofX (w1 v) (by decide) (by simp) (by simp) (by simp) (by simp) rfl)
  have wc : ∀ v : Int32, HTx (hpI S 813 2 v) z.txs := fun v => hC.x (by omega) (w1 v) (by decide) (by simp) (by simp) (by simp) (by simp)
  have wp : ∀ v : Int32, KP S (hpI S 813 2 v) := fun v => KP.ofX (w1 v) (by decide) (by simp)
  have wa : ∀ v : Int32, KA S (hpI S 813 2 v) := fun v => KA.ofX (w1 v) (by decide) (by simp)
  have w4 : ∀ v : Int32, (hpI S 813 2 v).2.1 804 2 = nI k := fun v => by rw [(w1 v).ei 804 (by decide)]; exact e804
  rw [h_judge_eq, hms.2.2.1, fd, Option.bind_some]
  unfold vAll
  cases hz : z.fm (sl M 3 4) with
  | none =>
    refine ⟨_, g, ?_, wz (-1), wc (-1), wp (-1), wa (-1), by show S.1.length ≤ _; omega, w4 (-1), fun c => ?_⟩
    · show (if ¬ ((-1 : Int32)) = (-1) then _ else _) = _
      rw [if_neg (by decide)]; rfl
    · exact absurd (show (2 : Int32) = 0 from c) (by decide)
  | some p =>
    have hp := (fm_lt hz).1
    obtain ⟨T, hTT⟩ : ∃ T, T = hpI S 813 2 (nI p) := ⟨_, rfl⟩
    have tx : hX [813] [] [] [] [] [] S T := by rw [hTT]; exact w1 _
    have tz : HZ T z g q u L es := by rw [hTT]; exact wz _
    have tc : HTx T z.txs := by rw [hTT]; exact wc _
    have t4 : T.2.1 804 2 = nI k := by rw [hTT]; exact w4 _
    have tp : KP S T := by rw [hTT]; exact wp _
    have ta : KA S T := by rw [hTT]; exact wa _
    have tl : T.1.length = S.1.length := by rw [tx.sh]
    have t13 : T.2.1 813 2 = nI p := by rw [hTT]; simp [hpI, up2]
    have tms : MSG T k M := by
      obtain ⟨m1, m2, m3, m4, ⟨a, ⟨d1, d2, d3, d4, d5, d6⟩, m5, m6, m7, m8⟩, m9⟩ := hms
      refine ⟨by rw [tx.ei 801 (by decide)]; exact m1, t4, by rw [tx.ei 805 (by decide)]; exact m3, by rw [tx.el 806 (by simp)]; exact m4, ⟨a, ⟨by rw [tx.a 1 (by simp)]; exact d1, d2, d3, by rw [tx.ei 801 (by decide)]; exact d4, by rw [tx.ei 802 (by decide)]; exact d5, d6⟩, by rw [tx.ei 810 (by decide)]; exact m5, by rw [tx.a 3 (by simp), tx.a 4 (by simp)]; exact m6, by rw [tx.ei 812 (by decide)]; exact m7, by rw [tx.b 6 (by simp)]; exact m8⟩, m9.fr (fun j h1 h2 => tx.ei j (by simp; omega) _) (tx.el 818 (by simp) _)⟩
    obtain ⟨S1, S', g', r1, r2, r3, r4, r5⟩ := h_jrs_ok (p := p) tz hO hn tc hT0 hk hok (by rw [tx.a 1 (by simp)]; exact hT) hp tms t13 (by rw [tx.ei 504 (by decide)]; exact h504) (by omega)
    have hM1 : T.1.length ≤ am_M + 1 := by omega
    have f1 : hE hs_fix S1.1 := by rw [r2.sh, tx.sh]; exact hf
    have z1 : HZ S1 z g q u L es := tz.w (GW.ofX r2 (by simp) (by simp) (by simp) (by decide) (by simp) rfl)
    have c1 : HTx S1 z.txs := tc.x hM1 r2 (by simp) (by simp) (by simp) (fun k hk => Or.inl (by have e : k = 5 := (by simpa using hk); omega)) (by simp)
    have z2 : HZ S' z g' q u L es := r3.hz z1 
    have c2 : HTx S' z.txs := c1.f f1 (by omega) r3.bf
    have p2 : KP S S' := tp.tr ((KP.ofX r2 (by simp) (by decide)).tr (KP.ofB f1 r3.bf))
    have a2 : KA S S' := ta.tr ((KA.ofX r2 (by simp) (by decide)).tr (KA.ofB f1 r3.bf))
    have k2 : S'.2.1 804 2 = nI k := by
      have l2 : 2 < S1.1.length := fix_lt f1 (by omega)
      rw [r3.bf.i 804 2 (by decide) l2, r2.ei 804 (by simp)]; exact t4
    have e0 : oI (some p) = nI p := rfl
    rw [e0, ← hTT, if_pos (show ¬ nI p = (-1 : Int32) from nI_nm1 (by omega)), h_ofB hk t4, Option.bind_some]
    by_cases c : ofB k = true ∧ p ≠ 0
    · refine ⟨T, g, ?_, tz, tc, tp, ta, by omega, t4, fun q => ?_⟩
      · show _ = some ((if ofB k = true ∧ p ≠ 0 then 3 else vRs z k p M), T)
        rw [if_pos c, c.1, if_neg (by decide), if_neg (show ¬ nI p = (0 : Int32) from fun q => c.2 ((nI_e0 (by omega)).mp q))]
      · have q' : (if ofB k = true ∧ p ≠ 0 then 3 else vRs z k p M) = 0 := q
        rw [if_pos c] at q'
        exact absurd q' (by decide)
    · refine ⟨S', g', ?_, z2, c2, p2, a2, by omega, k2, fun q => ?_⟩
      · show _ = some ((if ofB k = true ∧ p ≠ 0 then 3 else vRs z k p M), S')
        rw [if_neg c]
        cases ho : ofB k with
        | false => rw [if_pos (by decide)]; exact r1
        | true =>
          have hp0 : p = 0 := Classical.byContradiction (fun q => c ⟨ho, q⟩)
          rw [if_neg (by decide), if_pos (show nI p = (0 : Int32) from (nI_e0 (by omega)).mpr hp0)]; exact r1
      · have q' : (if ofB k = true ∧ p ≠ 0 then 3 else vRs z k p M) = 0 := q
        rw [if_neg c] at q'
        have hc0 : cdF z (cds k M) = 0 := Classical.byContradiction (fun w => by
          have hlt : cdF z (cds k M) < 6 := cdF_lt _ _
          unfold vRs at q'
          rw [if_neg w] at q'
          exact w ((nI_e0 (by omega)).mp q'))
        exact ⟨p, rfl, c, q', (r5 hc0).f f1 r3.bf⟩
end
