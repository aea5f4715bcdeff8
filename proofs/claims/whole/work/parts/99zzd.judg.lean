/-! The verdict: the class. -/
def okT (n : Nat) (z : Z) : Prop := z.txs.length ≤ n ∧ ∀ t ∈ z.txs, t.who < 256 ∧ t.nm.length = 8 ∧ is36 t.nm ∧ t.bs.length ≤ 123
def txO (z : Z) (k p : Nat) (M : List Nat) : Option Nat := if kpt k then txK p (sl M 7 8) 0 z.txs else none
def txB (z : Z) (j : Nat) : List Int32 := match z.txs[j]? with
  | some t => t.bs
  | none => []
def vPh (z : Z) (k p : Nat) (M : List Nat) : Int32 := if inT k z.tick (M.getD 15 0) (foB z (legsZ z M)) = false then 7 else if kpt k = true ∧ z.txs.length = 2000 then 12 else nI (vMat z k p M)
def vTx (z : Z) (k p : Nat) (M : List Nat) : Int32 := match txO z k p M with
  | some j => if txB z j = byt M then -1 else 6
  | none => vPh z k p M
def vRs (z : Z) (k p : Nat) (M : List Nat) : Int32 := if cdF z (cds k M) = 0 then vTx z k p M else nI (cdF z (cds k M))
def vAll (z : Z) (k : Nat) (M : List Nat) : Int32 := match z.fm (sl M 3 4) with
  | none => 2
  | some p => if ofB k = true ∧ p ≠ 0 then 3 else vRs z k p M
def h_jph (T : hS) : Option (Int32 × hS) := (h_De_isInPhase T).bind fun q44 => (if ¬ (q44 : Int32) = 0 then ((h_Me_takesReference T).bind fun q53 => (if (q53 : Int32) = 0 then ((h_De_judgeMatter T).bind fun q62 => (some (q62.1, q62.2))) else ((h_AL14_size T).bind fun q73 => (if (q73 : Int32) < 2000 then ((h_De_judgeMatter T).bind fun q82 => (some (q82.1, q82.2))) else (some (12, T)))))) else (some (7, T)))
def h_jtx (T : hS) : Option (Int32 × hS) := (h_Me_takesReference T).bind fun q35 => (if (q35 : Int32) = 0 then h_jph T else ((h_De_findSent T).bind fun q93 => (if q93 = none then h_jph T else ((q93).bind fun b151 => (((T.2.2.2.1 1202 b151)).bind fun b155 => ((h_Me_hasSameBytes b155 T).bind fun q159 => (if (q159 : Int32) = 0 then (some (6, T)) else (some ((-1), T)))))))))
def h_jrs (T : hS) : Option (Int32 × hS) := (h_De_findCodes T).bind fun q23 => (if (q23.1 : Int32) = 0 then h_jtx q23.2 else (some (q23.1, q23.2)))
theorem h_judge_eq (S : hS) : h_De_judge S = (h_Bo_findParticipant (S.2.1 805 2) S).bind fun q1 => (if ¬ (q1 : Int32) = (-1) then ((h_Me_isOfBankAlone (hpI S 813 2 q1)).bind fun q14 => (if (q14 : Int32) = 0 then h_jrs (hpI S 813 2 q1) else (if (q1 : Int32) = 0 then h_jrs (hpI S 813 2 q1) else (some (3, (hpI S 813 2 q1)))))) else (some (2, (hpI S 813 2 q1)))) := rfl
theorem b2i_e0 {b : Bool} : b2i b = (0 : Int32) ↔ b = false := by cases b <;> decide
theorem vLeg_lt {z : Z} : ∀ ls : List Leg, vLeg z ls < 13 := by
  intro ls
  induction ls with
  | nil => unfold vLeg; split <;> decide
  | cons l ls ih => unfold vLeg; split; decide; exact ih
theorem vMat_lt {z : Z} {k p : Nat} {M : List Nat} : vMat z k p M < 13 := by
  unfold vMat
  split <;> first | decide | skip
  all_goals first | unfold vNew | unfold vAst | unfold vPrc | unfold vIss | unfold vRed | unfold vCnf | unfold vOwn | unfold vLim | unfold vUnl | unfold vPlg | unfold vUnp | skip
  all_goals first | (split <;> first | decide | (split <;> first | decide | (split <;> first | decide | (split <;> decide)))) | skip
  all_goals exact vLeg_lt _
section
variable {n : Nat} {S : hS} {z : Z} {g : hG} {q u : List Ins} {L : Nat} {es : List (Ins × Bool)} {k p : Nat} {M : List Nat}
theorem h_jph_ok (h : HZ S z g q u L es) (hO : okZ n z) (hn : n ≤ 512) (hC : HTx S z.txs) (hT0 : okT n z) (hk : k < 15) (hok : okM k M) (h36 : is36 M) (hp : p < z.mem.length) (m : MG S z k p M) (h504 : S.2.1 504 20 = nI z.tick) (hlen : S.1.length < am_M) : ∃ S' g', h_jph S = some (vPh z k p M, S') ∧ GR S S' z g g' ∧ S'.1.length ≤ S.1.length + 1 := by
  obtain ⟨S', g', r1, r2, r3⟩ := h_mat h hO hn hk hok h36 hp m hlen
  have hrf : GR S S z g g := GR.rf h.B
  have hfo : k = 5 → h_De_isInFirstCurrencyAlone S = some (b2i (foB z (legsZ z M))) := fun e => by
    subst e
    obtain ⟨f1, f2, f3, f4⟩ := hok.l5
    have hc0 : cdF z (cds 5 M) = 0 := cdF_of (fun t c hc => by obtain ⟨v, v1, _⟩ := m.fd t c hc; exact ⟨v, v1⟩)
    have hb := legsZ_b hO hok hc0
    have ha := hO.ast
    have := h_fo_loop hO h.B.fir (ls := legsZ z M) (by rw [legsZ_len]; omega) m.l812 (fun t l hl => ⟨(m.LG t l hl).2.2.1, by have := (hb l (List.mem_of_getElem? hl)).2.2.1; omega⟩) _ 100000 0 rfl (by rw [legsZ_len]; omega) (by omega)
    rw [List.drop_zero] at this
    exact this
  have ht := h_time (pr := M.getD 15 0) hk m.e804 hO.tick h504 (fun e => by
    subst e
    have ot : S.2.1 817 2 = nI (M.getD 15 0) := m.ot
    exact ⟨ot, by have := hok.l5; omega⟩) hfo
  have hkp := h_kpt hk m.e804
  have hmt : ((h_De_judgeMatter S).bind fun q62 => (some (q62.1, q62.2))) = some (nI (vMat z k p M), S') := by rw [r1]; rfl
  obtain ⟨e, a1, a2, a3, a4, a5, a6⟩ := hC
  have hts := hT0.1
  unfold h_jph vPh
  rw [ht, Option.bind_some]
  cases c1 : inT k z.tick (M.getD 15 0) (foB z (legsZ z M)) with
  | false => exact ⟨S, g, by rw [if_neg (by decide), if_pos rfl], hrf, by omega⟩
  | true =>
    refine ⟨S', g', ?_, r2, r3⟩
    rw [if_pos (by decide), hkp, Option.bind_some, if_neg (show ¬ (true = false) by decide), if_neg (show ¬ (kpt k = true ∧ z.txs.length = 2000) from fun c => by omega)]
    cases kpt k with
    | false => rw [if_pos (by decide)]; exact hmt
    | true =>
      rw [if_neg (by decide)]
      unfold h_AL14_size
      rw [Option.bind_some, a4, if_pos (show nI z.txs.length < (2000 : Int32) from (nI_lt' (b := 2000) (by omega) (by omega)).mpr (by omega))]
      exact hmt
theorem h_jtx_ok (h : HZ S z g q u L es) (hO : okZ n z) (hn : n ≤ 512) (hC : HTx S z.txs) (hT0 : okT n z) (hk : k < 15) (hok : okM k M) (hT : TXT (S.2.2.2.2.1 1) M.length M) (hp : p < z.mem.length) (m : MG S z k p M) (h504 : S.2.1 504 20 = nI z.tick) (hlen : S.1.length < am_M) : ∃ S' g', h_jtx S = some (vTx z k p M, S') ∧ GR S S' z g g' ∧ S'.1.length ≤ S.1.length + 1 := by
  have hN := hok.l123
  have hm := hO.mem
  have ph := h_jph_ok h hO hn hC hT0 hk hok hT.m36 hp m h504 hlen
  have hkp := h_kpt hk m.e804
  have hrf : GR S S z g g := GR.rf h.B
  unfold h_jtx vTx txO
  rw [hkp, Option.bind_some]
  cases kpt k with
  | false => rw [if_pos (by decide)]; exact ph
  | true =>
    rw [if_neg (by decide)]
    have hx := h_sent hC (fun t ht => ⟨(hT0.2 t ht).1, (hT0.2 t ht).2.1, (hT0.2 t ht).2.2.1⟩) (w := p) (nm := sl M 7 8) (by omega) (sl_len (by omega)) (sl_36 hT.m36 _ _) m.e813 m.e806
    rcases hx with ⟨x1, x2⟩ | ⟨j, t, x, x1, x2, x3, x4⟩
    · rw [x2, Option.bind_some, if_pos rfl, if_pos (rfl : true = true), x1]; exact ph
    · obtain ⟨_, _, _, b, b1, b2, b3, b4⟩ := x4
      have hbl := (hT0.2 t (List.mem_of_getElem? x2)).2.2.2
      have sm := h_same b3 b4 (byt_get hT) (by rw [byt_len]; omega) (by omega) (by rw [byt_len]; exact m.e801)
      have tb : txB z j = t.bs := by unfold txB; rw [x2]
      refine ⟨S, g, ?_, hrf, by omega⟩
      rw [x3, Option.bind_some, if_neg (by simp), Option.bind_some, b1, Option.bind_some, sm, Option.bind_some, if_pos (rfl : true = true), x1]
      show _ = some ((if txB z j = byt M then -1 else 6), S)
      rw [tb]
      by_cases c : t.bs = byt M
      · rw [decide_eq_true c, if_neg (by decide), if_pos c]
      · rw [decide_eq_false c, if_pos (by decide), if_neg c]
end
