/-! The class's prices; who and what is new. -/
theorem sec_not_fc {z : Z} (hfc : ∀ a, z.fc = some a → z.mny a = true) {a : Nat} {x : Ast} (hx : z.ast[a]? = some x) (hsec : x.mny = false) : ¬ some a = z.fc := fun c => by
  have := hfc a c.symm
  rw [mny_some hx, hsec] at this
  cases this
/-- the state while the price is being set: credits of all before k are the new ones -/
def PL (T : hS) (l : Nat → Nat → Int64) (z : Z) (g : hG) (a prc cut k : Nat) : Prop := (AG T l) ∧ (∀ p, p < z.mem.length → l 904 (g.pb p) = lI ((if p < k then (z.uPrc a prc cut).crd p else z.crd p : Nat) : Int)) ∧ (l 406 10 = lI ((z.all : Int) - (sumN z.crd k : Nat) + (sumN (z.uPrc a prc cut).crd k : Nat))) ∧ (∀ P x, g.ad P = some x → P < 16384 → l 1003 x = lI (if some (P % 64) = z.fc ∧ P / 64 < k then -((z.uPrc a prc cut).crd (P / 64) : Int) else z.flr P)) ∧ (∀ P x, g.ad P = some x → 16384 ≤ P → l 1003 x = T.2.2.1 1003 x)
theorem PL.ag {T : hS} {l : Nat → Nat → Int64} {z : Z} {g : hG} {a prc cut k : Nat} (h : PL T l z g a prc cut k) : AG T l := h.1
theorem PL.cr {T : hS} {l : Nat → Nat → Int64} {z : Z} {g : hG} {a prc cut k : Nat} (h : PL T l z g a prc cut k) : ∀ p, p < z.mem.length → l 904 (g.pb p) = lI ((if p < k then (z.uPrc a prc cut).crd p else z.crd p : Nat) : Int) := h.2.1
theorem PL.al {T : hS} {l : Nat → Nat → Int64} {z : Z} {g : hG} {a prc cut k : Nat} (h : PL T l z g a prc cut k) : l 406 10 = lI ((z.all : Int) - (sumN z.crd k : Nat) + (sumN (z.uPrc a prc cut).crd k : Nat)) := h.2.2.1
theorem PL.fl {T : hS} {l : Nat → Nat → Int64} {z : Z} {g : hG} {a prc cut k : Nat} (h : PL T l z g a prc cut k) : ∀ P x, g.ad P = some x → P < 16384 → l 1003 x = lI (if some (P % 64) = z.fc ∧ P / 64 < k then -((z.uPrc a prc cut).crd (P / 64) : Int) else z.flr P) := h.2.2.2.1
theorem PL.rm {T : hS} {l : Nat → Nat → Int64} {z : Z} {g : hG} {a prc cut k : Nat} (h : PL T l z g a prc cut k) : ∀ P x, g.ad P = some x → 16384 ≤ P → l 1003 x = T.2.2.1 1003 x := h.2.2.2.2
theorem uPrc_crd0 {z : Z} (hb : ∀ P, P < 64 → z.pl P = 0) (hl : z.ast.length ≤ 64) (a prc cut : Nat) : (z.uPrc a prc cut).crd 0 = 0 ∧ z.crd 0 = 0 := ⟨crd_bank (z := z.uPrc a prc cut) hb (by rw [uPrc_len]; exact hl), crd_bank hb hl⟩
set_option maxHeartbeats 2000000 in
theorem h_price_loop {z : Z} {q u : List Ins} {L : Nat} {es : List (Ins × Bool)} (hX : okX z) (hC : okC z) (hfc : ∀ a, z.fc = some a → z.mny a = true) (hmp : ∀ P, P < 16384 → z.mny (P % 64) = true → z.pl P = 0) (hbk : ∀ P, P < 64 → z.pl P = 0) {a : Nat} {x : Ast} (hx : z.ast[a]? = some x) (hsec : x.mny = false) {prc cut : Nat} (h1 : prc < 1000000000000000) (h2 : cut < 100) : ∀ (d fu k : Nat) (T : hS) (l : Nat → Nat → Int64) (g : hG), HZ T z g q u L es → PL T l z g a prc cut k → z.mem.length - k = d → d < fu → k ≤ z.mem.length → T.1.length + d < am_M → ∃ T' l' g', hl_Bo_setPrice_3 fu (nI a) (lI prc) (nI cut) (nI k) (wl T l) = some (wl T' l') ∧ HZ T' z g' q u L es ∧ PL T' l' z g' a prc cut z.mem.length ∧ BF T T' ∧ T'.1.length ≤ T.1.length + d ∧ g'.2 = g.2 := by
  have hm := hX.mem
  have hs := hX.ast
  have ha := get_lt' hx
  intro d
  induction d with
  | zero =>
    intro fu k T l g h hP hd hf hk hlen
    obtain ⟨fu, rfl⟩ : ∃ f, fu = f + 1 := ⟨fu - 1, by omega⟩
    have hk2 : k = z.mem.length := by omega
    refine ⟨T, l, g, ?_, h, by rw [← hk2]; exact hP, BF.rf, by omega, rfl⟩
    unfold hl_Bo_setPrice_3
    rw [show (wl T l).2.1 401 10 = nI z.mem.length from h.B.mem, if_pos (nI_le0 (by omega) (by omega) (by omega))]
  | succ d ih =>
    intro fu k T l g h hP hd hf hk hlen
    obtain ⟨fu, rfl⟩ : ∃ f, fu = f + 1 := ⟨fu - 1, by omega⟩
    have hkm : k < z.mem.length := by omega
    have c904 := hP.cr k hkm
    rw [if_neg (by omega)] at c904
    have hcr := h_crPr (l := l) h.B hX hC hfc hmp hkm hx hsec h1 h2 hP.ag c904 (fun y hy => by
      rw [hP.fl _ y hy (by omega), if_neg (fun c => by omega)])
    obtain ⟨T1, l1, g1, a1, a2, a3, a4, a5, a6, a7, a8⟩ := h_setCredit (l := l) h.B hX hP.ag hkm ((z.uPrc a prc cut).crd k : Nat) (by omega)
    have hB1 := a2.hb h.B
    have hpb1 : g1.pb = g.pb := by unfold hG.pb; rw [a2.gg]
    have hP1 : PL T1 l1 z g1 a prc cut (k + 1) := by
      refine ⟨a3, fun p hp => ?_, ?_, fun P y hy hPl => ?_, fun P y hy hPl => ?_⟩
      · rw [hpb1]
        by_cases hpk : p = k
        · rw [hpk, if_pos (by omega)]; exact a6
        · obtain ⟨cp, _, hMp⟩ := h.B.p hp
          rw [a7 _ (len_get hMp.k) (fun w => hpk (h.B.pin p k hp hkm w)), hP.cr p hp]
          by_cases hlt : p < k
          · rw [if_pos hlt, if_pos (by omega)]
          · rw [if_neg hlt, if_neg (by omega)]
      · rw [a5, hP.al, c904, lI_sub, lI_add]
        congr 1
        show _ = (z.all : Int) - ((sumN z.crd k + z.crd k : Nat) : Int) + ((sumN (z.uPrc a prc cut).crd k + (z.uPrc a prc cut).crd k : Nat) : Int)
        omega
      · rcases a8 P y hy with ⟨f, f1, f2, f3, f4⟩ | ⟨f1, f2, f3⟩
        · have ff := hX.fc f f1
          rw [f4, f2, show (64 * k + f) % 64 = f by omega, show (64 * k + f) / 64 = k by omega, if_pos ⟨f1.symm, by omega⟩]
        · rw [f2, hP.fl P y f1 hPl]
          by_cases hc : some (P % 64) = z.fc ∧ P / 64 < k
          · rw [if_pos hc, if_pos ⟨hc.1, by omega⟩]
          · rw [if_neg hc]
            by_cases hc2 : some (P % 64) = z.fc ∧ P / 64 < k + 1
            · -- the bank's own
              have hPk : P / 64 = k := by
                have : ¬ P / 64 < k := fun w => hc ⟨hc2.1, w⟩
                have := hc2.2
                omega
              have hk0 : k = 0 := by
                by_cases hk0 : k = 0
                · exact hk0
                · exact absurd (show P = 64 * k + P % 64 by omega) (f3 (P % 64) hc2.1.symm hk0)
              have h00 := uPrc_crd0 hbk hs a prc cut
              rw [if_pos hc2, flr_a hPl, if_pos hc2.1, hPk, hk0, h00.1, h00.2]
            · rw [if_neg hc2]
      · rcases a8 P y hy with ⟨f, f1, f2, f3, f4⟩ | ⟨f1, f2, f3⟩
        · have ff := hX.fc f f1
          omega
        · rw [f2, hP.rm P y f1 hPl, a2.l _ _ (h.B.tab.pos P y f1).len]
    obtain ⟨T', l', g', b1, b2, b3, b4, b5, b6⟩ := ih fu (k + 1) T1 l1 g1 (a2.hz h) hP1 (by omega) (by omega) (by omega) (by omega)
    refine ⟨T', l', g', ?_, b2, b3, a2.bf.tr b4, by omega, b6.trans a2.gg⟩
    unfold hl_Bo_setPrice_3
    rw [show (wl T l).2.1 401 10 = nI z.mem.length from h.B.mem, if_neg (nI_ngt (by omega) (by omega) (by omega)), hcr, Option.bind_some, a1, Option.bind_some, nI_add1, b1]
theorem uPrc_fc (z : Z) (a prc cut : Nat) : (z.uPrc a prc cut).fc = z.fc := rfl
theorem uPrc_mny (z : Z) (a prc cut b : Nat) : (z.uPrc a prc cut).mny b = z.mny b := by
  unfold Z.mny
  by_cases h : b = a
  · subst h
    cases hx : z.ast[b]? with
    | some x => rw [uPrc_get z hx]; rfl
    | none => rw [uPrc_ast, List.getElem?_modify_eq, hx]; rfl
  · rw [uPrc_ast, List.getElem?_modify_ne _ _ (fun c => h c.symm)]
set_option maxHeartbeats 1000000 in
/-- a price is set -/
theorem h_setPrice {S : hS} {z : Z} {g : hG} {q u : List Ins} {L : Nat} {es : List (Ins × Bool)} (h : HZ S z g q u L es) (hX : okX z) (hC : okC z) (hfc : ∀ a, z.fc = some a → z.mny a = true) (hmp : ∀ P, P < 16384 → z.mny (P % 64) = true → z.pl P = 0) (hbk : ∀ P, P < 64 → z.pl P = 0) {a : Nat} {x : Ast} (hx : z.ast[a]? = some x) (hsec : x.mny = false) {prc cut : Nat} (h1 : prc < 1000000000000000) (h2 : cut < 100) (hlen : S.1.length + 256 < am_M) (hw : ∀ i ∈ z.ins, i.who < z.mem.length) (he : ∀ e ∈ es, e.1.who < z.mem.length) : ∃ S' g', h_Bo_setPrice (nI a) (lI prc) (nI cut) S = some S' ∧ HZ S' (z.uPrc a prc cut) g' q u L es ∧ BF S S' ∧ S'.1.length ≤ S.1.length + 256 ∧ g'.2 = g.2 := by
  have hm := hX.mem
  have hs := hX.ast
  have ha := get_lt' hx
  have hP0 : PL S S.2.2.1 z g a prc cut 0 := by
    refine ⟨fun _ _ _ _ => rfl, fun p hp => ?_, ?_, fun P y hy hPl => ?_, fun _ _ _ _ => rfl⟩
    · obtain ⟨cp, _, hMp⟩ := h.B.p hp
      rw [if_neg (by omega)]; exact hMp.crd
    · rw [h.B.all]
      refine congrArg lI ?_
      show (z.all : Int) = (z.all : Int) - ((0 : Nat) : Int) + ((0 : Nat) : Int)
      omega
    · rw [if_neg (fun c => by omega)]; exact (h.B.tab.pos P y hy).flr (Or.inl hPl)
  obtain ⟨T, l, g', b1, b2, b3, b4, b5, b6⟩ := h_price_loop hX hC hfc hmp hbk hx hsec h1 h2 _ 257 0 S S.2.2.1 g h hP0 rfl (by omega) (by omega) (by omega)
  have hA := b2.B.ast a x hx
  obtain ⟨S', hS'⟩ : ∃ S', S' = hpI (hpL (wl T l) 302 (g'.ab a) (lI prc)) 303 (g'.ab a) (nI cut) := ⟨_, rfl⟩
  have eL : ∀ k, k ≠ 302 → S'.2.2.1 k = l k := fun k hk => by
    rw [hS']
    show up2 l 302 (g'.ab a) (lI prc) k = _
    rw [up2_row hk]
  have eI : ∀ k, k ≠ 303 → S'.2.1 k = T.2.1 k := fun k hk => by
    rw [hS']
    show up2 T.2.1 303 (g'.ab a) (nI cut) k = _
    rw [up2_row hk]
  have hBf : HB S' (z.uPrc a prc cut) g' := by
    refine b2.B.ov (by rw [hS']; rfl) (by rw [hS']; rfl) eI (fun k k1 k2 k3 k4 => (eL k k1).trans (b3.ag k k2 k3 k4)) rfl rfl rfl rfl rfl rfl (fun P hP hn => (b2.B.tab.acc0 P hP hn).2.1) (uPrc_len z a prc cut) (fun b x' hx' => ?_) (fun P y hy hPl => ?_) (fun P y hy hPl => ?_) (fun p hp => ?_) ?_
    · by_cases hb : b = a
      · subst hb
        rw [uPrc_get z hx] at hx'
        cases hx'
        refine ⟨?_, ?_, ?_, ?_, ?_, ?_⟩
        · rw [hS']; exact hA.at
        · rw [hS']; exact hA.k
        · rw [eI 300 (by decide)]; exact hA.cod
        · rw [eI 301 (by decide)]; exact hA.sec
        · rw [hS']; simp [hpI, hpL, up2]; rfl
        · rw [hS']; simp [hpI, hpL, up2]; rfl
      · have hx2 : z.ast[b]? = some x' := by
          rw [uPrc_ast, List.getElem?_modify_ne _ _ (fun c => hb c.symm)] at hx'; exact hx'
        have hAb := b2.B.ast b x' hx2
        have hne : g'.ab b ≠ g'.ab a := fun w => hb (b2.B.ain b a (get_lt' hx2) ha w)
        refine ⟨?_, ?_, ?_, ?_, ?_, ?_⟩
        · rw [hS']; exact hAb.at
        · rw [hS']; exact hAb.k
        · rw [eI 300 (by decide)]; exact hAb.cod
        · rw [eI 301 (by decide)]; exact hAb.sec
        · rw [hS']
          show up2 l 302 (g'.ab a) (lI prc) 302 (g'.ab b) = _
          rw [up2_na hne, b3.ag 302 (by decide) (by decide) (by decide)]; exact hAb.prc
        · rw [hS']
          show up2 T.2.1 303 (g'.ab a) (nI cut) 303 (g'.ab b) = _
          rw [up2_na hne]; exact hAb.cut
    · rw [eL 1003 (by decide), b3.fl P y hy hPl, flr_a (z := z.uPrc a prc cut) hPl, uPrc_fc, uPrc_mny]
      have hin := b2.B.tab.inr P y hy
      unfold inP at hin
      by_cases hc : some (P % 64) = z.fc
      · rw [if_pos ⟨hc, by omega⟩, if_pos hc]
      · rw [if_neg (fun w => hc w.1), if_neg hc, flr_a hPl, if_neg hc]
        rfl
    · rw [eL 1003 (by decide)]; exact b3.rm P y hy hPl
    · rw [eL 904 (by decide), b3.cr p hp, if_pos hp]
    · rw [eL 406 (by decide), b3.al]
      congr 1
      show (z.all : Int) - ((sumN z.crd z.mem.length : Nat) : Int) + ((sumN (z.uPrc a prc cut).crd z.mem.length : Nat) : Int) = ((sumN (z.uPrc a prc cut).crd z.mem.length : Nat) : Int)
      unfold Z.all
      omega
  have hbf : BF T S' := by
    refine ⟨by rw [hS']; exact hE.rf, fun k y hk _ => ?_, fun k y hk _ => ?_, fun _ _ _ _ => by rw [hS']; rfl, fun _ _ => by rw [hS']; rfl, fun _ _ => by rw [hS']; rfl, fun _ _ _ => by rw [hS']; rfl⟩
    · rw [eI k (fun w => hk (by rw [w]; decide))]
    · rw [eL k (fun w => hk (by rw [w]; decide)), b3.ag k (fun w => hk (by rw [w]; decide)) (fun w => hk (by rw [w]; decide)) (fun w => hk (by rw [w]; decide))]
  refine ⟨S', g', ?_, b2.b hbf hBf (fun _ _ w => w) (fun _ _ w => Or.inl w) rfl rfl (fun _ _ => rfl) (fun _ _ => ⟨rfl, fun _ => rfl⟩) hw he, b4.tr hbf, ?_, b6⟩
  · unfold h_Bo_setPrice
    have e0 : wl S S.2.2.1 = S := rfl
    rw [e0] at b1
    have b1' : hl_Bo_setPrice_3 257 (nI a) (lI prc) (nI cut) 0 S = some (wl T l) := b1
    rw [b1', Option.bind_some, ix_N (by omega) (by omega), Option.bind_some, show (wl T l).2.2.2.2.2.2 12 a = some (g'.ab a) from hA.at, Option.bind_some, ← hS']
  · rw [hS']
    show T.1.length ≤ _
    omega
/-! All credits, if priced so. -/
theorem h_can_cr {S : hS} {z : Z} {g : hG} (h : HB S z g) (hX : okX z) (hb : ∀ P, -3000000000000000000 ≤ z.pos P ∧ z.pos P ≤ 3000000000000000000) {p : Nat} (hp : p < z.mem.length) {c : Nat} (hc : c < 9000000000000000000) : h_Bo_canHaveCredit (nI p) (lI c) S = some (b2i (match z.fc with | none => true | some a => decide (-(c : Int) ≤ z.pos (64 * p + a)))) := by
  unfold h_Bo_canHaveCredit
  rw [h.fir]
  cases hf : z.fc with
  | none => exact if_pos rfl
  | some a =>
    have ha := hX.fc a hf
    have hs := hX.ast
    have hp3 := hb (64 * p + a)
    rw [if_neg (show ¬ oI (some a) = -1 from nI_ne1 (by omega))]
    show (h_Bo_levelOf (nI p) (nI a) S).bind _ = _
    rw [h_level h hX hp ha, Option.bind_some, lI_neg]
    by_cases hq : -(c : Int) ≤ z.pos (64 * p + a)
    · rw [if_neg (fun w => by have := (cmp_lt0 (by omega) (by omega)).mp w; omega)]
      simp [hq, b2i]
    · rw [if_pos ((cmp_lt0 (by omega) (by omega)).mpr (by omega))]
      simp [hq, b2i]
theorem min64 {a : Int} (ha : inL a) {m : Nat} (hm : (m : Int) < 9223372036854775808) : (if Int64.ofNat m < lI a then Int64.ofNat m else lI a) = lI (if (m : Int) < a then (m : Int) else a) := by
  rw [lI_ofNat]
  by_cases h : (m : Int) < a
  · rw [if_pos ((lI_lt (by omega) ha).mpr h), if_pos h]
  · rw [if_neg (fun q => h ((lI_lt (by omega) ha).mp q)), if_neg h]
theorem h_allPr_loop {S : hS} {z : Z} {g : hG} (h : HB S z g) (hX : okX z) (hC : okC z) (hfc : ∀ a, z.fc = some a → z.mny a = true) (hmp : ∀ P, P < 16384 → z.mny (P % 64) = true → z.pl P = 0) {a : Nat} {x : Ast} (hx : z.ast[a]? = some x) (hsec : x.mny = false) {prc cut : Nat} (h1 : prc < 1000000000000000) (h2 : cut < 100) (hb : ∀ p, p < z.mem.length → (z.uPrc a prc cut).crd p ≤ 8000000000000000001) : ∀ (d fu k : Nat), z.mem.length - k = d → d < fu → k ≤ z.mem.length → hl_Bo_allCreditIfPriced_6 fu (nI a) (lI prc) (nI cut) (lI (min (sumN (z.uPrc a prc cut).crd k) (mostN + 1) : Nat)) (nI k) S = some (lI (min (sumN (z.uPrc a prc cut).crd z.mem.length) (mostN + 1) : Nat)) := by
  have hm := hX.mem
  intro d
  induction d with
  | zero =>
    intro fu k hd hf hk
    obtain ⟨fu, rfl⟩ : ∃ f, fu = f + 1 := ⟨fu - 1, by omega⟩
    unfold hl_Bo_allCreditIfPriced_6
    rw [h.mem, if_pos (nI_le0 (by omega) (by omega) (by omega)), show k = z.mem.length by omega]
  | succ d ih =>
    intro fu k hd hf hk
    obtain ⟨fu, rfl⟩ : ∃ f, fu = f + 1 := ⟨fu - 1, by omega⟩
    have hkm : k < z.mem.length := by omega
    obtain ⟨cp, _, hMp⟩ := h.p hkm
    have hcr := h_crPr (l := S.2.2.1) h hX hC hfc hmp hkm hx hsec h1 h2 (fun _ _ _ _ => rfl) hMp.crd (fun y hy => (h.tab.pos _ y hy).flr (Or.inl (by have := hX.ast; have := get_lt' hx; omega)))
    have e0 : wl S S.2.2.1 = S := rfl
    rw [e0] at hcr
    have hb1 := hb k hkm
    have IH := ih fu (k + 1) (by omega) (by omega) (by omega)
    unfold hl_Bo_allCreditIfPriced_6
    rw [h.mem, if_neg (nI_ngt (by omega) (by omega) (by omega)), hcr, Option.bind_some, nI_add1]
    have e1 : (if Int64.ofNat 4000000000000000001 < lI ((z.uPrc a prc cut).crd k : Nat) then Int64.ofNat 4000000000000000001 else lI ((z.uPrc a prc cut).crd k : Nat)) = lI ((min ((z.uPrc a prc cut).crd k) (mostN + 1) : Nat) : Int) := by
      rw [min64 (by omega) (by omega)]
      congr 1
      rw [mostV]
      split <;> omega
    rw [e1, lI_add]
    have hm1 : min (sumN (z.uPrc a prc cut).crd k) (mostN + 1) ≤ mostN + 1 := Nat.min_le_right _ _
    have hm2 : min ((z.uPrc a prc cut).crd k) (mostN + 1) ≤ mostN + 1 := Nat.min_le_right _ _
    rw [mostV] at hm1 hm2
    have e2 : (if Int64.ofNat 4000000000000000001 < lI (((min (sumN (z.uPrc a prc cut).crd k) (mostN + 1) : Nat) : Int) + ((min ((z.uPrc a prc cut).crd k) (mostN + 1) : Nat) : Int)) then Int64.ofNat 4000000000000000001 else lI (((min (sumN (z.uPrc a prc cut).crd k) (mostN + 1) : Nat) : Int) + ((min ((z.uPrc a prc cut).crd k) (mostN + 1) : Nat) : Int))) = lI ((min (sumN (z.uPrc a prc cut).crd (k + 1)) (mostN + 1) : Nat) : Int) := by
      rw [mostV]
      rw [mostV] at *
      rw [min64 (by omega) (by omega)]
      congr 1
      show _ = ((min (sumN (z.uPrc a prc cut).crd k + (z.uPrc a prc cut).crd k) (4000000000000000000 + 1) : Nat) : Int)
      generalize sumN (z.uPrc a prc cut).crd k = A
      generalize (z.uPrc a prc cut).crd k = B
      split <;> omega
    rw [e2]
    exact IH
theorem h_allPr {S : hS} {z : Z} {g : hG} (h : HB S z g) (hX : okX z) (hC : okC z) (hfc : ∀ a, z.fc = some a → z.mny a = true) (hmp : ∀ P, P < 16384 → z.mny (P % 64) = true → z.pl P = 0) {a : Nat} {x : Ast} (hx : z.ast[a]? = some x) (hsec : x.mny = false) {prc cut : Nat} (h1 : prc < 1000000000000000) (h2 : cut < 100) (hb : ∀ p, p < z.mem.length → (z.uPrc a prc cut).crd p ≤ 8000000000000000001) : h_Bo_allCreditIfPriced (nI a) (lI prc) (nI cut) S = some (lI (min (z.uPrc a prc cut).all (mostN + 1) : Nat)) := by
  have hm := hX.mem
  unfold h_Bo_allCreditIfPriced
  have := h_allPr_loop h hX hC hfc hmp hx hsec h1 h2 hb _ 100000 0 rfl (by omega) (by omega)
  have e : hl_Bo_allCreditIfPriced_6 100000 (nI a) (lI prc) (nI cut) 0 0 S = some (lI (min (sumN (z.uPrc a prc cut).crd z.mem.length) (mostN + 1) : Nat)) := this
  rw [e]; rfl
