/-! Judging what the bank gives and takes back: both. -/
def vIss (z : Z) (p a v : Nat) : Nat := if p = 0 ∨ v = 0 then 8 else if z.pos a - v < -4000000000000000000 then 10 else 0
def vRed (z : Z) (p a v : Nat) : Nat := if p = 0 ∨ v = 0 then 8 else if z.pos (64 * p + a) - v < z.flr (64 * p + a) then 9 else 0
theorem lI_m4 : Int64.ofNat 14446744073709551616 = lI (-4000000000000000000) := by decide
theorem h_jiss {n : Nat} {S : hS} {z : Z} {g : hG} (hB : HB S z g) (hO : okZ n z) (hn : n ≤ 512) {p a v : Nat} (hp : p < z.mem.length) (ha : a < z.ast.length) (hv : v < 1000000000000000) (e0 : S.2.2.2.2.1 5 0 = nI a) (e1 : S.2.2.2.2.1 5 1 = nI p) (e6 : S.2.2.2.2.2.1 6 0 = lI (v : Int)) : h_De_judgeIssue S = some (nI (vIss z p a v)) := by
  have hm := hO.mem
  have hps := hO.pos a
  have hbig : big n ≤ 4000000000000000000 := by unfold big; omega
  have hpos : 0 ≤ big n := by unfold big; omega
  have htot := hO.tot
  unfold h_De_judgeIssue vIss
  rw [show am_ix 1 12 = some 1 from by decide, Option.bind_some, e1]
  by_cases c1 : p = 0
  · rw [if_pos ((nI_e0 (by omega)).mpr c1), if_pos (Or.inl c1)]; rfl
  · rw [if_neg (fun w => c1 ((nI_e0 (by omega)).mp w)), show am_ix 0 4 = some 0 from by decide, Option.bind_some, e6]
    by_cases c2 : v = 0
    · rw [if_neg (fun w => w ((lI_c0 hv).mpr c2)), if_pos (Or.inr c2)]; rfl
    · have hl : h_Bo_levelOf 0 (nI a) S = some (lI (z.pos (64 * 0 + a))) := h_level hB hO.x (p := 0) (by omega) ha
      rw [Nat.mul_zero, Nat.zero_add] at hl
      have e : 0 ≤ lg_cmp (lI (z.pos a - v)) (lI (-4000000000000000000)) ↔ -4000000000000000000 ≤ z.pos a - v := cmp_ge0 (by omega) (by omega)
      rw [if_pos (fun w => c2 ((lI_c0 hv).mp w)), show am_ix 0 12 = some 0 from by decide, Option.bind_some, e0, hl, Option.bind_some, lI_m4, lI_sub, if_neg (show ¬ (p = 0 ∨ v = 0) from fun w => by rcases w with w | w; exact c1 w; exact c2 w)]
      by_cases c3 : z.pos a - v < -4000000000000000000
      · rw [if_neg (fun w => by have := e.mp w; omega), if_pos c3]; rfl
      · rw [if_pos (e.mpr (by omega)), if_neg c3]; rfl
theorem flr_inL {n : Nat} {z : Z} (hO : okZ n z) (hn : n ≤ 512) {P : Nat} (hP : P < 16384) (hm : P / 64 < z.mem.length) : inL (z.flr P) := by
  have hbig : big n ≤ 4000000000000000000 := by unfold big; omega
  have hpl := hO.pl P
  have hc := hO.crd1 hm
  unfold mostN at hc
  unfold Z.flr
  rw [if_pos hP]
  split
  · omega
  · split
    · omega
    · omega
theorem h_jred {n : Nat} {S : hS} {z : Z} {g : hG} (hB : HB S z g) (hO : okZ n z) (hn : n ≤ 512) {p a v : Nat} (hp : p < z.mem.length) (ha : a < z.ast.length) (hv : v < 1000000000000000) (e0 : S.2.2.2.2.1 5 0 = nI a) (e1 : S.2.2.2.2.1 5 1 = nI p) (e6 : S.2.2.2.2.2.1 6 0 = lI (v : Int)) (hlen : S.1.length < am_M) : ∃ S' g', h_De_judgeRedemption S = some (nI (vRed z p a v), S') ∧ GR S S' z g g' ∧ S'.1.length ≤ S.1.length + 1 := by
  have hm := hO.mem
  have hast := hO.ast
  have hps := hO.pos (64 * p + a)
  have hbig : big n ≤ 4000000000000000000 := by unfold big; omega
  have hpos : 0 ≤ big n := by unfold big; omega
  have htot := hO.tot
  unfold h_De_judgeRedemption vRed
  rw [show am_ix 1 12 = some 1 from by decide, Option.bind_some, e1]
  by_cases c1 : p = 0
  · rw [if_pos ((nI_e0 (by omega)).mpr c1), if_pos (Or.inl c1)]; exact ⟨S, g, rfl, GR.rf hB, by omega⟩
  · rw [if_neg (fun w => c1 ((nI_e0 (by omega)).mp w)), show am_ix 0 4 = some 0 from by decide, Option.bind_some, e6]
    by_cases c2 : v = 0
    · rw [if_neg (fun w => w ((lI_c0 hv).mpr c2)), if_pos (Or.inr c2)]; exact ⟨S, g, rfl, GR.rf hB, by omega⟩
    · obtain ⟨y, S', g', a1, a2, a3, a4⟩ := h_account hB hO.x hp ha hlen
      have hP := (a2.hb hB).tab.pos _ _ a3
      have b6 : S'.2.2.2.2.2.1 6 0 = lI (v : Int) := by rw [a2.bf.b 6 (fix_lt hB.fix (by decide))]; exact e6
      have lv := hP.lev
      have fl := hP.fld
      have fr := hP.flr (Or.inl (by omega))
      unfold Z.lev at lv
      rw [if_pos (by omega)] at lv
      unfold Z.fld at fl
      rw [if_pos (by omega), decide_eq_true (by omega)] at fl
      have hfl := flr_inL hO hn (P := 64 * p + a) (by omega) (by omega)
      have e : lg_cmp (lI (z.pos (64 * p + a) + -(v : Int))) (lI (z.flr (64 * p + a))) < 0 ↔ z.pos (64 * p + a) + -(v : Int) < z.flr (64 * p + a) := cmp_lt0 (by omega) hfl
      refine ⟨S', g', ?_, a2, a4⟩
      rw [if_pos (fun w => c2 ((lI_c0 hv).mp w)), show am_ix 0 12 = some 0 from by decide, Option.bind_some, e0, a1, Option.bind_some]
      unfold h_Po_canMoveBy
      show ((if S'.2.1 1002 y = 0 then some 1 else if lg_cmp (S'.2.2.1 1001 y + -(S'.2.2.2.2.2.1 6 0)) (S'.2.2.1 1003 y) < 0 then some 0 else some (1 : Int32)).bind fun q23 => if (q23 : Int32) = 0 then some ((9 : Int32), S') else some (0, S')) = _
      rw [fl, if_neg (by decide), b6, lI_neg, lv, fr, lI_add, if_neg (show ¬ (p = 0 ∨ v = 0) from fun w => by rcases w with w | w; exact c1 w; exact c2 w)]
      by_cases c3 : z.pos (64 * p + a) - v < z.flr (64 * p + a)
      · rw [if_pos (e.mpr (by omega)), Option.bind_some, if_pos (by decide), if_pos c3]; rfl
      · rw [if_neg (fun w => by have := e.mp w; omega), Option.bind_some, if_neg (by decide), if_neg c3]; rfl
theorem d_jbnk {n : Nat} {s : mS} {z : Z} (hB : MB s z) (hO : okZ n z) (hn : n ≤ 512) {M : List Nat} (hT : TXT (s.2.2.1 24) M.length M) (hN : M.length ≤ 400) (h37 : 37 ≤ M.length) {k p a v : Nat} (hk : k = 3 ∨ k = 4) (h4 : s.1 4 = nI k) (hwa : z.fa (sl M 15 3) = some a) (hw : z.fm (sl M 18 4) = some p) (hD : isD (sl M 22 15) = true) (hnum : num (sl M 22 15) = v) (hv : v < 1000000000000000) : d_Mo_bankFault s = some (nI (if k = 3 then vIss z p a v else vRed z p a v)) := by
  have hm := hO.mem
  have hast := hO.ast
  have hp := (fm_lt hw).1
  have ha := fa_lt hwa
  have hbig : big n ≤ 4000000000000000000 := by unfold big; omega
  have hpos : 0 ≤ big n := by unfold big; omega
  have htot := hO.tot
  have d1 : d_Mo_assetAt 15 s = some (oI (z.fa (sl M 15 3))) := d_ast hT hN hB hO.ast (fun x hx => ⟨(hO.acd x hx).1, (hO.acd x hx).2.1⟩) 15 (by omega)
  have d2 : d_Mo_memberAt 18 s = some (oI (z.fm (sl M 18 4))) := d_mem hT hN hB hm.2 hO.cod 18 (by omega)
  have d3 : d_Mo_number 22 15 s = some (lI (num (sl M 22 15) : Nat)) := d_nmb hT hN 22 15 (by omega) hD
  rw [hwa] at d1
  rw [hw] at d2
  rw [hnum] at d3
  have d1' : d_Mo_assetAt 15 s = some (nI a) := d1
  have d2' : d_Mo_memberAt 18 s = some (nI p) := d2
  have i1 : 64 * nI p + nI a = nI (64 * p + a) := by rw [show (64 : Int32) = nI 64 from rfl, nI_mul, nI_add']
  unfold d_Mo_bankFault vIss vRed
  rw [d1', Option.bind_some, d2', Option.bind_some, d3, Option.bind_some]
  by_cases c1 : p = 0
  · rw [if_pos ((nI_e0 (by omega)).mpr c1), if_pos (Or.inl c1), if_pos (Or.inl c1), ite_self]; rfl
  · rw [if_neg (fun w => c1 ((nI_e0 (by omega)).mp w))]
    by_cases c2 : v = 0
    · rw [if_neg (fun w => w ((lI_c0 hv).mpr c2)), if_pos (Or.inr c2), if_pos (Or.inr c2), ite_self]; rfl
    · have hne : ¬ (p = 0 ∨ v = 0) := fun w => by rcases w with w | w; exact c1 w; exact c2 w
      rw [if_pos (fun w => c2 ((lI_c0 hv).mp w)), if_neg hne, if_neg hne, h4]
      rcases hk with rfl | rfl
      · have hps := hO.pos a
        have e : 0 ≤ lg_cmp (lI (z.pos a - v)) (lI (-4000000000000000000)) ↔ -4000000000000000000 ≤ z.pos a - v := cmp_ge0 (by omega) (by omega)
        rw [if_neg (by decide), ix_N (by omega) (by omega), Option.bind_some, hB.pos _ (by omega), lI_m4, lI_sub, if_pos rfl]
        by_cases c3 : z.pos a - v < -4000000000000000000
        · rw [if_neg (fun w => by have := e.mp w; omega), if_pos c3]; rfl
        · rw [if_pos (e.mpr (by omega)), if_neg c3]; rfl
      · have hps := hO.pos (64 * p + a)
        have hfl := flr_inL hO hn (P := 64 * p + a) (by omega) (by omega)
        have hfd := d_floor hB (hO.c hn) (fun a q => (hO.fc a q).1) (P := 64 * p + a) (by omega) (by omega) (hO.crd1 (by omega))
        have e : 0 ≤ lg_cmp (lI (z.pos (64 * p + a) - v)) (lI (z.flr (64 * p + a))) ↔ z.flr (64 * p + a) ≤ z.pos (64 * p + a) - v := cmp_ge0 (by omega) hfl
        rw [if_pos (by decide), i1, ix_N (by omega) (by omega), Option.bind_some, hfd, Option.bind_some, hB.pos _ (by omega), lI_sub, if_neg (show ¬ (4 : Nat) = 3 by decide)]
        by_cases c3 : z.pos (64 * p + a) - v < z.flr (64 * p + a)
        · rw [if_neg (fun w => by have := e.mp w; omega), if_pos c3]; rfl
        · rw [if_pos (e.mpr (by omega)), if_neg c3]; rfl
