/-! What a message does, before anything settles by it. -/
def insP (z : Z) (p tn : Nat) (M : List Nat) : Ins := mkIns p (sl M 7 8) (M.getD 15 0) tn (legsZ z M) [p]
def eff (z : Z) (k p : Nat) (M : List Nat) : Z := match k with
  | 0 => z.addM (sl M 15 4)
  | 1 => z.addA (mkAst (sl M 15 3) (decide (M.getD 18 0 = 12)) (num (sl M 19 15)) (num (sl M 34 2)))
  | 2 => z.uPrc (faD z (sl M 15 3)) (num (sl M 18 15)) (num (sl M 33 2))
  | 3 => (z.mvH (faD z (sl M 15 3)) (-(num (sl M 22 15) : Int))).mvH (64 * fmD z (sl M 18 4) + faD z (sl M 15 3)) (num (sl M 22 15) : Int)
  | 4 => (z.mvH (faD z (sl M 15 3)) (-(-(num (sl M 22 15) : Int)))).mvH (64 * fmD z (sl M 18 4) + faD z (sl M 15 3)) (-(num (sl M 22 15) : Int))
  | 5 => if (insP z p 0 M).wt then z.wIT (z.ins ++ [insP z p (z.turns + 1) M]) (z.turns + 1) else z.wIT (z.ins ++ [insP z p 0 M]) z.turns
  | 6 => match z.opn (fmD z (sl M 15 4)) (sl M 19 8) with
    | some i => if (i.cnf p).wt then z.wIT (repL (mkIns i.who i.nm i.pr (z.turns + 1) i.legs (i.ag ++ [p])) z.ins) (z.turns + 1) else z.wIT (repL (i.cnf p) z.ins) z.turns
    | none => z
  | 7 => match z.opn p (sl M 15 8) with
    | some i => z.del i
    | none => z
  | 8 => match z.opn p (sl M 15 8) with
    | some i => if i.wt then z.wIT (repL (mkIns i.who i.nm (M.getD 23 0) (z.turns + 1) i.legs i.ag) z.ins) (z.turns + 1) else z.wIT (repL (mkIns i.who i.nm (M.getD 23 0) i.tn i.legs i.ag) z.ins) z.turns
    | none => z
  | 9 => z.uLim (256 * p + fmD z (sl M 15 4)) (num (sl M 19 15)) (if 0 ≤ z.lim (256 * p + fmD z (sl M 15 4)) then z.lims else z.lims + 1)
  | 10 => z.uLim (256 * p + fmD z (sl M 15 4)) (-1) (z.lims - 1)
  | 11 => z.uPl (64 * p + faD z (sl M 15 3)) (z.pl (64 * p + faD z (sl M 15 3)) + (num (sl M 18 15) : Int))
  | 12 => z.uPl (64 * p + faD z (sl M 15 3)) (z.pl (64 * p + faD z (sl M 15 3)) - (num (sl M 18 15) : Int))
  | _ => z
theorem vRs_0 {z : Z} {k p : Nat} {M : List Nat} (h : vRs z k p M = 0) : cdF z (cds k M) = 0 ∧ txO z k p M = none ∧ inT k z.tick (M.getD 15 0) (foB z (legsZ z M)) = true ∧ vMat z k p M = 0 := by
  have hc := cdF_lt z (cds k M)
  have hv : vMat z k p M < 13 := vMat_lt
  unfold vRs at h
  by_cases c0 : cdF z (cds k M) = 0
  · rw [if_pos c0] at h
    refine ⟨c0, ?_⟩
    unfold vTx at h
    cases ht : txO z k p M with
    | some j =>
      rw [ht] at h
      have h' : (if txB z j = byt M then (-1 : Int32) else 6) = 0 := h
      by_cases c : txB z j = byt M
      · rw [if_pos c] at h'; exact absurd h' (by decide)
      · rw [if_neg c] at h'; exact absurd h' (by decide)
    | none =>
      rw [ht] at h
      have h' : vPh z k p M = 0 := h
      refine ⟨rfl, ?_⟩
      unfold vPh at h'
      cases hi : inT k z.tick (M.getD 15 0) (foB z (legsZ z M)) with
      | false => rw [hi, if_pos rfl] at h'; exact absurd h' (by decide)
      | true =>
        rw [hi, if_neg (by decide)] at h'
        refine ⟨rfl, ?_⟩
        by_cases c : kpt k = true ∧ z.txs.length = 2000
        · rw [if_pos c] at h'; exact absurd h' (by decide)
        · rw [if_neg c] at h'
          exact (nI_e0 (by omega)).mp h'
  · rw [if_neg c0] at h
    exact absurd ((nI_e0 (by omega)).mp h) c0
theorem vLeg_0 {z : Z} : ∀ {ls : List Leg}, vLeg z ls = 0 → z.ins.length ≠ 250 ∧ ∀ l ∈ ls, ¬ (l.f = 0 ∨ l.t = 0 ∨ l.f = l.t ∨ l.v = 0) := by
  intro ls
  induction ls with
  | nil =>
    intro h
    unfold vLeg at h
    refine ⟨fun c => ?_, fun l hl => by cases hl⟩
    rw [if_pos c] at h; cases h
  | cons l ls ih =>
    intro h
    unfold vLeg at h
    by_cases c : l.f = 0 ∨ l.t = 0 ∨ l.f = l.t ∨ l.v = 0
    · rw [if_pos c] at h; cases h
    · rw [if_neg c] at h
      obtain ⟨h1, h2⟩ := ih h
      refine ⟨h1, fun m hm => ?_⟩
      rcases List.mem_cons.mp hm with q | q
      · rw [q]; exact c
      · exact h2 m q
theorem legsZ_ok {n : Nat} {z : Z} (hO : okZ n z) {M : List Nat} (h : okM 5 M) (hc : cdF z (cds 5 M) = 0) (hv : vLeg z (legsZ z M) = 0) : ∀ l ∈ legsZ z M, okL z l := fun l hl => by
  obtain ⟨b1, b2, b3, b4⟩ := legsZ_b hO h hc l hl
  have hn := (vLeg_0 hv).2 l hl
  exact ⟨b1, b2, b3, by omega, by omega, fun q => hn (Or.inr (Or.inr (Or.inl q))), by omega, b4⟩
theorem mny_get {z : Z} {a : Nat} {x : Ast} (h : z.ast[a]? = some x) : z.mny a = x.mny := by
  unfold Z.mny
  rw [h]
section
variable {n : Nat} {z : Z} {k p : Nat} {M : List Nat}
set_option maxHeartbeats 1000000 in
theorem eff_ok (hO : okZ n z) (hG : good z) (hk : k < 15) (hok : okM k M) (h36 : is36 M) (hp : p < z.mem.length) (hc0 : cdF z (cds k M) = 0) (hv : vMat z k p M = 0) (hu : k = 5 → ∀ j ∈ z.ins, ¬ (j.who = p ∧ j.nm = sl M 7 8)) : okZ (n + 1) (eff z k p M) ∧ good (eff z k p M) := by
  have hm := hO.mem
  have hla := hO.ast
  have hl := hok.len
  have hf := hok.ok
  have hN := hok.l123
  have fnd := cdF_0 hc0
  have htr := hO.turns
  have hbg := big_s n
  have hc : k = 0 ∨ k = 1 ∨ k = 2 ∨ k = 3 ∨ k = 4 ∨ k = 5 ∨ k = 6 ∨ k = 7 ∨ k = 8 ∨ k = 9 ∨ k = 10 ∨ k = 11 ∨ k = 12 ∨ k = 13 ∨ k = 14 := by omega
  rcases hc with rfl | rfl | rfl | rfl | rfl | rfl | rfl | rfl | rfl | rfl | rfl | rfl | rfl | rfl | rfl
  · have hl' : M.length = 17 + 4 := hl
    have hv' : vNew z (sl M 15 4) = 0 := hv
    have h256 : z.mem.length < 256 := by
      unfold vNew at hv'
      by_cases c : z.fm (sl M 15 4) = none
      · rw [if_pos c] at hv'
        by_cases c2 : z.mem.length = 256
        · rw [if_pos c2] at hv'; cases hv'
        · omega
      · rw [if_neg c] at hv'; cases hv'
    exact ⟨(hO.addM (sl_len (by omega)) (sl_36 h36 _ _) h256).up, hG.addM hO h256⟩
  · have hl' : M.length = 17 + 21 := hl
    have hf' : (M.getD 18 0 = 28 ∨ M.getD 18 0 = 12) ∧ isD (sl M 19 15) = true ∧ isD (sl M 34 2) = true := hf
    have hv' : vAst z (sl M 15 3) = 0 := hv
    have h64 : z.ast.length < 64 := by
      unfold vAst at hv'
      by_cases c : z.fa (sl M 15 3) = none
      · rw [if_pos c] at hv'
        by_cases c2 : z.ast.length = 64
        · rw [if_pos c2] at hv'; cases hv'
        · omega
      · rw [if_neg c] at hv'; cases hv'
    exact ⟨(hO.addA (x := mkAst (sl M 15 3) (decide (M.getD 18 0 = 12)) (num (sl M 19 15)) (num (sl M 34 2))) ⟨sl_len (by omega), sl_36 h36 _ _, num15 (by omega) hf'.2.1, num2 (by omega) hf'.2.2⟩ h64).up, hG.addA hO h64⟩
  · have hl' : M.length = 17 + 20 := hl
    have hf' : isD (sl M 18 15) = true ∧ isD (sl M 33 2) = true := hf
    have hv' : vPrc z (faD z (sl M 15 3)) (num (sl M 18 15)) (num (sl M 33 2)) = 0 := hv
    unfold vPrc at hv'
    by_cases c1 : z.mny (faD z (sl M 15 3)) = true
    · rw [if_pos c1] at hv'; cases hv'
    · rw [if_neg c1] at hv'
      cases c2 : anyB (z.uPrc (faD z (sl M 15 3)) (num (sl M 18 15)) (num (sl M 33 2))) 0 z.mem.length with
      | true => rw [c2, if_pos rfl] at hv'; cases hv'
      | false =>
        rw [c2, if_neg (by decide)] at hv'
        by_cases c3 : mostN < (z.uPrc (faD z (sl M 15 3)) (num (sl M 18 15)) (num (sl M 33 2))).all
        · rw [if_pos c3] at hv'; cases hv'
        · exact ⟨(hO.uPrc (num15 (by omega) hf'.1) (num2 (by omega) hf'.2) (by omega)).up, hG.uPrc hO (by omega) c2⟩
  · have hl' : M.length = 17 + 22 := hl
    have hf' : isD (sl M 22 15) = true := hf
    have n15 := num15 (by omega) hf'
    have a1 := cdO_a (fnd (true, sl M 15 3) (by simp [cds]))
    have b1 := cdO_m (fnd (false, sl M 18 4) (by simp [cds]))
    have hv' : vIss z (fmD z (sl M 18 4)) (faD z (sl M 15 3)) (num (sl M 22 15)) = 0 := hv
    unfold vIss at hv'
    by_cases c1 : fmD z (sl M 18 4) = 0 ∨ num (sl M 22 15) = 0
    · rw [if_pos c1] at hv'; cases hv'
    · exact ⟨hO.giv (fm_lt b1).1 (fun q => c1 (Or.inl q)) (fa_lt a1) (by omega), hG.giv hO (fm_lt b1).1 (fun q => c1 (Or.inl q)) (fa_lt a1) (Or.inl (by omega))⟩
  · have hl' : M.length = 17 + 22 := hl
    have hf' : isD (sl M 22 15) = true := hf
    have n15 := num15 (by omega) hf'
    have a1 := cdO_a (fnd (true, sl M 15 3) (by simp [cds]))
    have b1 := cdO_m (fnd (false, sl M 18 4) (by simp [cds]))
    have hv' : vRed z (fmD z (sl M 18 4)) (faD z (sl M 15 3)) (num (sl M 22 15)) = 0 := hv
    unfold vRed at hv'
    by_cases c1 : fmD z (sl M 18 4) = 0 ∨ num (sl M 22 15) = 0
    · rw [if_pos c1] at hv'; cases hv'
    · rw [if_neg c1] at hv'
      by_cases c2 : z.pos (64 * fmD z (sl M 18 4) + faD z (sl M 15 3)) - (num (sl M 22 15) : Int) < z.flr (64 * fmD z (sl M 18 4) + faD z (sl M 15 3))
      · rw [if_pos c2] at hv'; cases hv'
      · exact ⟨hO.giv (fm_lt b1).1 (fun q => c1 (Or.inl q)) (fa_lt a1) (by omega), hG.giv hO (fm_lt b1).1 (fun q => c1 (Or.inl q)) (fa_lt a1) (Or.inr (by omega))⟩
  · obtain ⟨f1, f2, f3, f4⟩ := hok.l5
    have hv' : vLeg z (legsZ z M) = 0 := hv
    have hlg := legsZ_ok hO hok hc0 hv'
    have h250 := (vLeg_0 hv').1
    have hil := hO.ins
    have mk : ∀ tn T, tn ≤ T → z.turns ≤ T → okI (z.wIT (z.ins ++ [insP z p tn M]) T) (insP z p tn M) := fun tn T h1 h2 => ⟨hp, ⟨sl_len (by omega), sl_36 h36 _ _⟩, f1, h1, by show 1 ≤ (legsZ z M).length ∧ (legsZ z M).length ≤ 4; rw [legsZ_len]; exact f2, hlg⟩
    have hu' := hu rfl
    show okZ (n + 1) (if (insP z p 0 M).wt then z.wIT (z.ins ++ [insP z p (z.turns + 1) M]) (z.turns + 1) else z.wIT (z.ins ++ [insP z p 0 M]) z.turns) ∧ good (if (insP z p 0 M).wt then z.wIT (z.ins ++ [insP z p (z.turns + 1) M]) (z.turns + 1) else z.wIT (z.ins ++ [insP z p 0 M]) z.turns)
    cases c : (insP z p 0 M).wt with
    | true => exact ⟨hO.app ⟨by omega, by omega⟩ (mk _ _ (by omega) (by omega)) hu' (fun _ j hj => by have := (hO.oki j hj).tn; show j.tn < z.turns + 1; omega) (by omega), hG⟩
    | false => exact ⟨hO.app ⟨by omega, by omega⟩ (mk _ _ (by omega) (by omega)) hu' (fun q => by rw [c] at q; cases q) (by omega), hG⟩
  · have hv' : vCnf z (fmD z (sl M 15 4)) (sl M 19 8) p = 0 := hv
    show okZ (n + 1) (match z.opn (fmD z (sl M 15 4)) (sl M 19 8) with | some i => _ | none => z) ∧ good (match z.opn (fmD z (sl M 15 4)) (sl M 19 8) with | some i => _ | none => z)
    cases ho : z.opn (fmD z (sl M 15 4)) (sl M 19 8) with
    | none => exact ⟨hO.up, hG⟩
    | some i =>
      obtain ⟨i1, i2, i3⟩ := opn_some ho
      have o := hO.oki i i1
      show okZ (n + 1) (if (i.cnf p).wt then z.wIT (repL (mkIns i.who i.nm i.pr (z.turns + 1) i.legs (i.ag ++ [p])) z.ins) (z.turns + 1) else z.wIT (repL (i.cnf p) z.ins) z.turns) ∧ good (if (i.cnf p).wt then z.wIT (repL (mkIns i.who i.nm i.pr (z.turns + 1) i.legs (i.ag ++ [p])) z.ins) (z.turns + 1) else z.wIT (repL (i.cnf p) z.ins) z.turns)
      cases c : (i.cnf p).wt with
      | true => exact ⟨hO.rep i1 rfl rfl rfl ⟨by omega, by omega⟩ o.pr (by show z.turns + 1 ≤ _; omega) (fun _ j hj => by have := (hO.oki j hj).tn; show j.tn < z.turns + 1; omega), hG⟩
      | false => exact ⟨hO.rep i1 rfl rfl rfl ⟨by omega, by omega⟩ o.pr o.tn (fun q => by rw [c] at q; cases q), hG⟩
  · show okZ (n + 1) (match z.opn p (sl M 15 8) with | some i => z.del i | none => z) ∧ good (match z.opn p (sl M 15 8) with | some i => z.del i | none => z)
    cases ho : z.opn p (sl M 15 8) with
    | none => exact ⟨hO.up, hG⟩
    | some i => exact ⟨(hO.fil _).up, hG⟩
  · have hf' : 1 ≤ M.getD 23 0 ∧ M.getD 23 0 ≤ 9 := hf
    show okZ (n + 1) (match z.opn p (sl M 15 8) with | some i => _ | none => z) ∧ good (match z.opn p (sl M 15 8) with | some i => _ | none => z)
    cases ho : z.opn p (sl M 15 8) with
    | none => exact ⟨hO.up, hG⟩
    | some i =>
      obtain ⟨i1, i2, i3⟩ := opn_some ho
      have o := hO.oki i i1
      show okZ (n + 1) (if i.wt then z.wIT (repL (mkIns i.who i.nm (M.getD 23 0) (z.turns + 1) i.legs i.ag) z.ins) (z.turns + 1) else z.wIT (repL (mkIns i.who i.nm (M.getD 23 0) i.tn i.legs i.ag) z.ins) z.turns) ∧ good (if i.wt then z.wIT (repL (mkIns i.who i.nm (M.getD 23 0) (z.turns + 1) i.legs i.ag) z.ins) (z.turns + 1) else z.wIT (repL (mkIns i.who i.nm (M.getD 23 0) i.tn i.legs i.ag) z.ins) z.turns)
      cases c : i.wt with
      | true => exact ⟨hO.rep i1 rfl rfl rfl ⟨by omega, by omega⟩ hf' (by show z.turns + 1 ≤ _; omega) (fun _ j hj => by have := (hO.oki j hj).tn; show j.tn < z.turns + 1; omega), hG⟩
      | false => exact ⟨hO.rep i1 rfl rfl rfl ⟨by omega, by omega⟩ hf' o.tn (fun q => by have q' : i.wt = true := q; rw [c] at q'; cases q'), hG⟩
  · have hl' : M.length = 17 + 19 := hl
    have hf' : isD (sl M 19 15) = true := hf
    have n15 := num15 (by omega) hf'
    have b1 := cdO_m (fnd (false, sl M 15 4) (by simp [cds]))
    have hv' : vLim z p (fmD z (sl M 15 4)) (num (sl M 19 15)) = 0 := hv
    have hls := hO.lims
    unfold vLim at hv'
    by_cases c1 : p = 0 ∨ fmD z (sl M 15 4) = 0 ∨ fmD z (sl M 15 4) = p
    · rw [if_pos c1] at hv'; cases hv'
    · rw [if_neg c1] at hv'
      by_cases c2 : (num (sl M 19 15) : Int) < z.paid (256 * p + fmD z (sl M 15 4))
      · rw [if_pos c2] at hv'; cases hv'
      · rw [if_neg c2] at hv'
        refine ⟨hO.uLim hp (fm_lt b1).1 (by omega) ?_, hG.uLim (fun _ => by omega)⟩
        by_cases c3 : 0 ≤ z.lim (256 * p + fmD z (sl M 15 4))
        · rw [if_pos c3]; omega
        · rw [if_neg c3] at hv' ⊢
          by_cases c4 : z.lims = 2000
          · rw [if_pos c4] at hv'; cases hv'
          · omega
  · have b1 := cdO_m (fnd (false, sl M 15 4) (by simp [cds]))
    have hls := hO.lims
    exact ⟨hO.uLim hp (fm_lt b1).1 (by omega) (by omega), hG.uLim (fun q => by omega)⟩
  · have hl' : M.length = 17 + 18 := hl
    have hf' : isD (sl M 18 15) = true := hf
    have n15 := num15 (by omega) hf'
    have a1 := cdO_a (fnd (true, sl M 15 3) (by simp [cds]))
    have ha := fa_lt a1
    have hv' : vPlg z p (faD z (sl M 15 3)) (num (sl M 18 15)) = 0 := hv
    have hpl := hO.pl (64 * p + faD z (sl M 15 3))
    unfold vPlg at hv'
    by_cases c1 : p = 0 ∨ z.mny (faD z (sl M 15 3)) = true ∨ num (sl M 18 15) = 0
    · rw [if_pos c1] at hv'; cases hv'
    · rw [if_neg c1] at hv'
      by_cases c2 : z.pos (64 * p + faD z (sl M 15 3)) < z.pl (64 * p + faD z (sl M 15 3)) + (num (sl M 18 15) : Int)
      · rw [if_pos c2] at hv'; cases hv'
      · rw [if_neg c2] at hv'
        by_cases c3 : mostN < (z.uPl (64 * p + faD z (sl M 15 3)) (z.pl (64 * p + faD z (sl M 15 3)) + (num (sl M 18 15) : Int))).all
        · rw [if_pos c3] at hv'; cases hv'
        · have hmf : z.mny (faD z (sl M 15 3)) = false := by
            cases hq : z.mny (faD z (sl M 15 3)) with
            | true => exact absurd (Or.inr (Or.inl hq)) c1
            | false => rfl
          have hp0 : p ≠ 0 := fun q => c1 (Or.inl q)
          obtain ⟨x, hx⟩ := get_lt (ks := z.ast) ha
          refine ⟨hO.uPl hp hp0 ha hmf (by omega) (by omega), hG.uPl hO hp0 ha (by omega) (fun b hb => ?_)⟩
          have g0 := good_fc hO hG hp b hb hp0
          have mo := (uPl_mono hla (p := p) ha hx (by rw [← mny_get hx]; exact hmf) (v := z.pl (64 * p + faD z (sl M 15 3)) + (num (sl M 18 15) : Int))).1 (by omega)
          omega
  · have hl' : M.length = 17 + 18 := hl
    have hf' : isD (sl M 18 15) = true := hf
    have n15 := num15 (by omega) hf'
    have a1 := cdO_a (fnd (true, sl M 15 3) (by simp [cds]))
    have ha := fa_lt a1
    have hv' : vUnp z p (faD z (sl M 15 3)) (num (sl M 18 15)) = 0 := hv
    have hpl := hO.pl (64 * p + faD z (sl M 15 3))
    unfold vUnp at hv'
    by_cases c1 : p = 0 ∨ z.mny (faD z (sl M 15 3)) = true ∨ num (sl M 18 15) = 0
    · rw [if_pos c1] at hv'; cases hv'
    · rw [if_neg c1] at hv'
      by_cases c2 : z.pl (64 * p + faD z (sl M 15 3)) < (num (sl M 18 15) : Int)
      · rw [if_pos c2] at hv'; cases hv'
      · rw [if_neg c2] at hv'
        cases c3 : (z.uPl (64 * p + faD z (sl M 15 3)) (z.pl (64 * p + faD z (sl M 15 3)) - (num (sl M 18 15) : Int))).bel p with
        | true => rw [c3, if_pos rfl] at hv'; cases hv'
        | false =>
          have hmf : z.mny (faD z (sl M 15 3)) = false := by
            cases hq : z.mny (faD z (sl M 15 3)) with
            | true => exact absurd (Or.inr (Or.inl hq)) c1
            | false => rfl
          have hp0 : p ≠ 0 := fun q => c1 (Or.inl q)
          obtain ⟨x, hx⟩ := get_lt (ks := z.ast) ha
          have mo := (uPl_mono hla (p := p) ha hx (by rw [← mny_get hx]; exact hmf) (v := z.pl (64 * p + faD z (sl M 15 3)) - (num (sl M 18 15) : Int))).2 (by omega)
          have al := uPl_all z hla hp ha (z.pl (64 * p + faD z (sl M 15 3)) - (num (sl M 18 15) : Int))
          have hcr := hO.crd
          have hcp := crd_le hO hp
          have hfl : z.pl (64 * p + faD z (sl M 15 3)) ≤ z.pos (64 * p + faD z (sl M 15 3)) := by
            have g1 := hG.1 (64 * p + faD z (sl M 15 3)) (by omega) (by omega) (by omega) (by omega)
            rw [flr_a (by omega), show (64 * p + faD z (sl M 15 3)) % 64 = faD z (sl M 15 3) by omega, hmf] at g1
            rw [if_neg (fun q => by have := (hO.fc _ q.symm).2; rw [hmf] at this; cases this)] at g1
            exact g1
          refine ⟨hO.uPl hp hp0 ha hmf (by omega) (by omega), hG.uPl hO hp0 ha (by omega) (fun b hb => ?_)⟩
          exact bel_f c3 hb (by omega)
  · exact ⟨hO.up, hG⟩
  · exact ⟨hO.up, hG⟩
end
