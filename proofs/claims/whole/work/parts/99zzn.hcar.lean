/-! The class carries a message out. -/
def txZ (z : Z) (k p : Nat) (M : List Nat) : Z := if kpt k then z.addT (mkTxt p (sl M 7 8) (byt M)) else z
def keyO (z : Z) (k p : Nat) (M : List Nat) : Option (Nat × List Nat) := if k = 5 then some (p, sl M 7 8) else if k = 6 then some (fmD z (sl M 15 4), sl M 19 8) else none
theorem anyB_cong {z z' : Z} (h : ∀ j, z'.bel j = z.bel j) : ∀ d j, anyB z' j d = anyB z j d := by
  intro d
  induction d with
  | zero => intro j; rfl
  | succ d ih =>
    intro j
    unfold anyB
    rw [h j, ih (j + 1)]
theorem vLeg_cong {z z' : Z} (h : z'.ins = z.ins) : ∀ ls : List Leg, vLeg z' ls = vLeg z ls := by
  intro ls
  induction ls with
  | nil => unfold vLeg; rw [h]
  | cons l ls ih => unfold vLeg; rw [ih]
theorem vMat_addT (z : Z) (k p : Nat) (M : List Nat) (t : Txt) : vMat (z.addT t) k p M = vMat z k p M := by
  unfold vMat
  split
  case h_3 =>
    unfold vPrc
    have e : anyB ((z.addT t).uPrc (faD (z.addT t) (sl M 15 3)) (num (sl M 18 15)) (num (sl M 33 2))) 0 (z.addT t).mem.length = anyB (z.uPrc (faD z (sl M 15 3)) (num (sl M 18 15)) (num (sl M 33 2))) 0 z.mem.length := anyB_cong (z := z.uPrc (faD z (sl M 15 3)) (num (sl M 18 15)) (num (sl M 33 2))) (z' := (z.addT t).uPrc (faD (z.addT t) (sl M 15 3)) (num (sl M 18 15)) (num (sl M 33 2))) (fun j => rfl) _ _
    rw [e]; rfl
  case h_6 => exact vLeg_cong (z := z) (z' := z.addT t) rfl (legsZ z M)
  all_goals rfl
theorem cdO_addT (z : Z) (t : Txt) (c : Bool × List Nat) : cdO (z.addT t) c = cdO z c := rfl
theorem cdF_addT (z : Z) (t : Txt) : ∀ cs : List (Bool × List Nat), cdF (z.addT t) cs = cdF z cs := by
  intro cs
  induction cs with
  | nil => rfl
  | cons c l ih =>
    unfold cdF
    rw [cdO_addT, ih]
theorem txZ_mat (z : Z) (k p : Nat) (M : List Nat) : vMat (txZ z k p M) k p M = vMat z k p M := by
  unfold txZ
  split
  · exact vMat_addT _ _ _ _ _
  · rfl
theorem txZ_cdF (z : Z) (k p : Nat) (M : List Nat) (cs : List (Bool × List Nat)) : cdF (txZ z k p M) cs = cdF z cs := by
  unfold txZ
  split
  · exact cdF_addT _ _ _
  · rfl
theorem txZ_same (z : Z) (k p : Nat) (M : List Nat) : (txZ z k p M).mem = z.mem ∧ (txZ z k p M).ast = z.ast ∧ (txZ z k p M).fc = z.fc ∧ (txZ z k p M).ins = z.ins ∧ (txZ z k p M).tick = z.tick ∧ (txZ z k p M).turns = z.turns := by
  unfold txZ
  split <;> exact ⟨rfl, rfl, rfl, rfl, rfl, rfl⟩
theorem txZ_ok {n : Nat} {z : Z} (h : okZ n z) (k p : Nat) (M : List Nat) : okZ n (txZ z k p M) := by
  unfold txZ
  split
  · exact h
  · exact h
theorem txZ_good {z : Z} (h : good z) (k p : Nat) (M : List Nat) : good (txZ z k p M) := by
  unfold txZ
  split
  · exact h
  · exact h
theorem txZ_fmD (z : Z) (k p : Nat) (M c : List Nat) : fmD (txZ z k p M) c = fmD z c := by
  unfold txZ
  split <;> rfl
theorem txZ_opn (z : Z) (k p : Nat) (M : List Nat) (w : Nat) (nm : List Nat) : (txZ z k p M).opn w nm = z.opn w nm := by
  unfold txZ
  split <;> rfl
theorem okZ.setl {n : Nat} : ∀ (m : Nat) {z : Z} {q : List Ins}, okZ n z → (∀ i ∈ q, i ∈ z.ins) → okZ n (setl m z q).1 := by
  intro m
  induction m with
  | zero => intro z q h _; exact h
  | succ m ih =>
    intro z q h hq
    cases hf : z.fst (fun _ => false) q with
    | none => rw [setl_none hf]; exact h
    | some i =>
      rw [setl_some hf]
      exact ih (h.stl (hq i (fst_mem hf).1)) (fun j hj => by
        obtain ⟨j1, j2⟩ := List.mem_filter.mp hj
        exact List.mem_filter.mpr ⟨hq j j1, j2⟩)
theorem isq_ins {z : Z} {q : List Ins} (h : z.isq q) : ∀ i ∈ q, i ∈ z.ins := fun i hi => ((h.2 i).mp hi).1
def h_kp (S : hS) : Option hS := ((hs_al S).bind fun a113 => ((h_Se_init a113 (hNew S 12 0)).bind fun q122 => ((h_AL14_add2 a113 q122).bind fun q133 => (some q133.2))))
theorem h_carry_eq (S : hS) : h_De_carryOut S = if ¬ ((S.2.1 804 2) : Int32) = 14 then ((h_Me_takesReference S).bind fun q2 => ((if (q2 : Int32) = 0 then (some S) else h_kp S).bind fun (u10 : hS) => ((h_ch u10).bind fun (u18 : Option Nat × hS) => h_tl u18.1 u18.2))) else ((h_An_putLine 2 S).bind fun q144 => ((h_Bo_putStatement (q144.2.1 813 2) q144).bind fun q155 => (some q155))) := rfl
section
variable {n : Nat} {S : hS} {z : Z} {g : hG} {q u : List Ins} {L : Nat} {p k : Nat} {M : List Nat}
theorem h_kp_ok (h : HZ S z g q u L []) (hk : k < 15) (hok : okM k M) (hT : TXT (S.2.2.2.2.1 1) M.length M) (m : MG S z k p M) (hC : HTx S z.txs) (hts : z.txs.length ≤ 512) (hlen : S.1.length + 310 < am_M) : ∃ S1, (if (b2i (kpt k) : Int32) = 0 then (some S) else h_kp S) = some S1 ∧ HZ S1 (txZ z k p M) g q u L [] ∧ HTx S1 (txZ z k p M).txs ∧ KP S S1 ∧ KA S S1 ∧ MG S1 (txZ z k p M) k p M ∧ S1.1.length ≤ S.1.length + 3 := by
  have hf := h.B.fix
  have h60 : 59 < S.1.length := fix_lt hf (by omega)
  have hN := hok.l123
  unfold txZ
  cases kpt k with
  | false => exact ⟨S, by rw [if_pos (by decide)], h, hC, KP.rf, KA.rf, m, by omega⟩
  | true =>
    obtain ⟨S1, r1, r2, r3, r4, r5⟩ := h_keep hf hC (by omega) (by omega) hT (by omega) m.e801 m.e813 m.e806
    refine ⟨S1, by rw [if_neg (by decide)]; exact r1, h.w r3, r2, KP.ofK hf r3.sh r4, KA.ofK hf r4, ?_, r5⟩
    exact m.fr (fun j h1 h2 => r4.i j 2 (by omega) (by omega)) (r4.l _ _ (by omega)) (r4.l _ _ (by omega)) (r4.a 5 (by omega)) (r4.b 6 (by omega)) rfl rfl
theorem h_carry (h : HZ S z g q u L []) (hO : okZ n z) (hG : good z) (hn : n + 1 ≤ 512) (hk : k < 13) (hok : okM k M) (hT : TXT (S.2.2.2.2.1 1) M.length M) (hfm : z.fm (sl M 3 4) = some p) (m : MG S z k p M) (hv : vMat z k p M = 0) (hu : k = 5 → ∀ j ∈ z.ins, ¬ (j.who = p ∧ j.nm = sl M 7 8)) (hC : HTx S z.txs) (hts : z.txs.length ≤ 512) (hA : HAn S []) (hL : L < 1999999000) (hlen : S.1.length + 310 < am_M) : ∃ S' g' q2 u2 L', h_De_carryOut S = some S' ∧ (eff (txZ z k p M) k p M).isq q2 ∧ HZ S' (setl 250 (eff (txZ z k p M) k p M) q2).1 g' (setl 250 (eff (txZ z k p M) k p M) q2).2.1 u2 L' [] ∧ HTx S' (txZ z k p M).txs ∧ KP S S' ∧ S'.2.1 202 7 = S.2.1 202 7 ∧ S'.1.length ≤ S.1.length + 259 ∧ L ≤ L' ∧ L' ≤ L + 251 ∧ HAn S' (txt (okw (setl 250 (eff (txZ z k p M) k p M) q2).1 (setl 250 (eff (txZ z k p M) k p M) q2).2.2 (keyO z k p M)) ++ [nI 10] ++ telB (eff (txZ z k p M) k p M) (tld (setl 250 (eff (txZ z k p M) k p M) q2).2.2)) := by
  have hN := hok.l123
  have hp := (fm_lt hfm).1
  obtain ⟨x1, x2, x3, x4, x5, x6⟩ := txZ_same z k p M
  have hc0 : cdF z (cds k M) = 0 := cdF_of (fun t c hc => by obtain ⟨v, v1, _⟩ := m.fd t c hc; exact ⟨v, v1⟩)
  have hv1 : vMat (txZ z k p M) k p M = 0 := by rw [txZ_mat]; exact hv
  have hu1 : k = 5 → ∀ j ∈ (txZ z k p M).ins, ¬ (j.who = p ∧ j.nm = sl M 7 8) := by rw [x4]; exact hu
  have hfm1 : (txZ z k p M).fm (sl M 3 4) = some p := by
    unfold Z.fm at hfm ⊢
    rw [x1]; exact hfm
  have O1 := txZ_ok hO k p M
  obtain ⟨O2, G2⟩ := eff_ok (k := k) (p := p) (M := M) O1 (txZ_good hG k p M) (by omega) hok hT.m36 (by rw [x1]; exact hp) (by rw [txZ_cdF]; exact hc0) hv1 hu1
  obtain ⟨S1, r1, r2, r3, r4, r5, r6, r7⟩ := h_kp_ok h (by omega) hok hT m hC hts hlen
  obtain ⟨o, S2, g2, q2, u2, t1, ⟨t2, t3, t4, t5, t6⟩, o1, o2, o3⟩ := h_eff r2 O1 (by omega) hk hok hT.m36 hfm1 r6 hv1 hu1 r3 (by omega)
  have hq2 := isq_ins t2.Q.isq
  have O3 := O2.setl 250 hq2
  have ho : o = (keyO z k p M).map fun w => g2.2.1 w.1 w.2 := by
    unfold keyO
    by_cases c5 : k = 5
    · rw [if_pos c5, o2 c5]; rfl
    · rw [if_neg c5]
      by_cases c6 : k = 6
      · rw [if_pos c6]
        obtain ⟨i, i1, i2⟩ := o3 c6
        rw [txZ_fmD] at i1
        obtain ⟨_, j1, j2⟩ := opn_some i1
        rw [i2]
        show some (g2.2.1 i.who i.nm) = _
        rw [j1, j2]; rfl
      · rw [if_neg c6, o1 c5 c6]; rfl
  have hkey : ∀ w, keyO z k p M = some w → ∃ i ∈ (eff (txZ z k p M) k p M).ins, i.who = w.1 ∧ i.nm = w.2 := fun w hw => by
    unfold keyO at hw
    by_cases c5 : k = 5
    · subst c5
      rw [if_pos rfl] at hw
      cases hw
      show ∃ i ∈ (if (insP (txZ z 5 p M) p 0 M).wt then (txZ z 5 p M).wIT ((txZ z 5 p M).ins ++ [insP (txZ z 5 p M) p ((txZ z 5 p M).turns + 1) M]) ((txZ z 5 p M).turns + 1) else (txZ z 5 p M).wIT ((txZ z 5 p M).ins ++ [insP (txZ z 5 p M) p 0 M]) (txZ z 5 p M).turns).ins, _
      split
      · exact ⟨insP (txZ z 5 p M) p ((txZ z 5 p M).turns + 1) M, List.mem_append.mpr (Or.inr (List.mem_singleton.mpr rfl)), rfl, rfl⟩
      · exact ⟨insP (txZ z 5 p M) p 0 M, List.mem_append.mpr (Or.inr (List.mem_singleton.mpr rfl)), rfl, rfl⟩
    · rw [if_neg c5] at hw
      by_cases c6 : k = 6
      · subst c6
        rw [if_pos rfl] at hw
        cases hw
        obtain ⟨i, i1, i2⟩ := o3 rfl
        obtain ⟨j0, j1, j2⟩ := opn_some i1
        rw [txZ_fmD] at j1
        have key : ∀ (i' : Ins) (T : Nat), i'.who = i.who → i'.nm = i.nm → ∃ j ∈ ((txZ z 6 p M).wIT (repL i' (txZ z 6 p M).ins) T).ins, j.who = fmD z (sl M 15 4) ∧ j.nm = sl M 19 8 := fun i' T e1 e2 => ⟨i', List.mem_map.mpr ⟨i, j0, by rw [if_pos (sameK_iff.mpr ⟨e1, e2⟩)]⟩, by rw [e1]; exact j1, by rw [e2]; exact j2⟩
        show ∃ j ∈ (match (txZ z 6 p M).opn (fmD (txZ z 6 p M) (sl M 15 4)) (sl M 19 8) with | some i => if (i.cnf p).wt then (txZ z 6 p M).wIT (repL (mkIns i.who i.nm i.pr ((txZ z 6 p M).turns + 1) i.legs (i.ag ++ [p])) (txZ z 6 p M).ins) ((txZ z 6 p M).turns + 1) else (txZ z 6 p M).wIT (repL (i.cnf p) (txZ z 6 p M).ins) (txZ z 6 p M).turns | none => txZ z 6 p M).ins, _
        rw [i1]
        show ∃ j ∈ (if (i.cnf p).wt then (txZ z 6 p M).wIT (repL (mkIns i.who i.nm i.pr ((txZ z 6 p M).turns + 1) i.legs (i.ag ++ [p])) (txZ z 6 p M).ins) ((txZ z 6 p M).turns + 1) else (txZ z 6 p M).wIT (repL (i.cnf p) (txZ z 6 p M).ins) (txZ z 6 p M).turns).ins, _
        split
        · exact key _ _ rfl rfl
        · exact key _ _ rfl rfl
      · rw [if_neg c6] at hw; cases hw
  obtain ⟨S3, L', v1, v2, v3, v4, v5, v6, v7, v8, v9⟩ := h_tl_ok hn t2 O2 O3 hL ((hA.ka r5).ka t5) t3 (by omega) (fun e he => by cases he) hkey (fun _ => rfl)
  refine ⟨S3, g2, q2, u2, L', ?_, t2.Q.isq, v2, v3, r4.tr (t4.tr v4), by rw [v5, t5.i202, r5.i202], by omega, v7, v8, v9⟩
  rw [h_carry_eq, m.e804, if_pos (show ¬ nI k = (14 : Int32) from fun c => by have := nI_inj (b := 14) (by omega) (by omega) c; omega), h_kpt (by omega) m.e804, Option.bind_some, r1, Option.bind_some, t1, Option.bind_some, ho]
  exact v1
theorem h_carryR (h : HZ S z g q u L []) (hO : okZ n z) (hn : n ≤ 512) (m : MG S z 13 p M) (hC : HTx S z.txs) (hA : HAn S []) (hL : L < 1999990000) (hlen : S.1.length + 310 < am_M) : ∃ S' C L', h_De_carryOut S = some S' ∧ z.vld q C ∧ z.ub q C ∧ HZ S' (resZ z q C).1 g (resZ z q C).2.1 u L' [] ∧ HTx S' z.txs ∧ KP S S' ∧ S'.2.1 202 7 = S.2.1 202 7 ∧ S'.1.length = S.1.length ∧ L ≤ L' ∧ L' ≤ L + 753 ∧ HAn S' (txt 2 ++ [nI 10] ++ telB z (tld (resZ z q C).2.2)) := by
  obtain ⟨S2, C, L2, r1, r2, r3, r4, r5, r6, r7, r8⟩ := h_resolve hn h hO hL
  have hq2 := isq_ins r4.Q.isq
  have O3 := r5.setl 250 hq2
  have hm : (stlL z (q.filter C)).mem = z.mem := (same_stls (q.filter C) z).mem
  have hq := isq_ins h.Q.isq
  obtain ⟨S3, L', v1, v2, v3, v4, v5, v6, v7, v8, v9⟩ := h_tl_ok (o := none) hn r4 r5 O3 (by omega) (hA.ka (KA.ofX r8 (by decide) (by simp))) (hC.x (by omega) r8 (by decide) (by decide) (by simp) (by simp) (by decide)) (by rw [r8.sh]; omega) (fun e he => by
    rw [List.nil_append] at he
    unfold tld at he
    obtain ⟨i, i1, i2⟩ := List.mem_map.mp he
    have ok := hO.oki i (hq i (List.mem_filter.mp i1).1)
    rw [← i2, hm]
    exact ⟨ok.who, ok.nm.1, ok.nm.2⟩) (fun k hk => by cases hk) (fun c => absurd rfl c)
  have et : telB (stlL z (q.filter C)) ([] ++ tld (q.filter C) ++ tld (setl 250 (stlL z (q.filter C)) (q.filter fun i => !(C i))).2.2) = telB z (tld (resZ z q C).2.2) := by
    unfold telB evB resZ tld
    rw [hm, List.nil_append, List.map_append (l₁ := q.filter C)]
  rw [et] at v9
  refine ⟨S3, C, L', ?_, r2, r3, v2, v3, (KP.ofX r8 (by decide) (by simp)).tr v4, by rw [v5, r8.ei 202 (by decide)], by rw [v6, r8.sh], by omega, by omega, v9⟩
  have hch : h_ch S = some (none, S2) := by
    refine h_ch_c (k := 13) (by omega) (by omega) (by omega) m.e804 ?_
    unfold h_De_change
    rw [m.e804, if_neg (by decide), if_neg (by decide), if_neg (by decide), if_neg (by decide), if_neg (by decide), if_neg (by decide), if_neg (by decide), if_neg (by decide), if_neg (by decide), if_neg (by decide), if_neg (by decide), if_pos (by decide), r1]; rfl
  rw [h_carry_eq, m.e804, if_pos (by decide), h_kpt (by omega) m.e804, Option.bind_some, if_pos (by decide), Option.bind_some, hch, Option.bind_some]
  exact v1
end
