/-! Judging what is taken out of pledge: the class. -/
def vUnp (z : Z) (p a v : Nat) : Nat := if p = 0 ∨ z.mny a = true ∨ v = 0 then 8 else if z.pl (64 * p + a) < v then 8 else if (z.uPl (64 * p + a) (z.pl (64 * p + a) - v)).bel p then 9 else 0
theorem wth_mono {m k : Nat} (prc cut : Nat) (h : m ≤ k) : wth m prc cut ≤ wth k prc cut := by
  unfold wth
  have := Nat.div_le_div_right (c := 100) (Nat.mul_le_mul_right (prc * (100 - cut)) h)
  omega
theorem h_junp {n : Nat} {S : hS} {z : Z} {g : hG} (hB : HB S z g) (hO : okZ n z) (hn : n ≤ 512) {p a v : Nat} (hp : p < z.mem.length) (ha : a < z.ast.length) (hv : v < 1000000000000000) (e813 : S.2.1 813 2 = nI p) (e0 : S.2.2.2.2.1 5 0 = nI a) (e6 : S.2.2.2.2.2.1 6 0 = lI (v : Int)) : h_De_judgeUnpledge S = some (nI (vUnp z p a v)) := by
  have hm := hO.mem
  have hast := hO.ast
  have hbig : big n ≤ 2048000000000000000 := by unfold big; omega
  have hpl := hO.pl (64 * p + a)
  have hc1 := hO.crd1 hp
  have htot := hO.tot
  unfold mostN at hc1
  obtain ⟨x, hx, hA⟩ := hB.a ha
  have hmx := mny_some hx
  have hfc : ∀ a, z.fc = some a → z.mny a = true := fun a q => (hO.fc a q).2
  unfold h_De_judgeUnpledge vUnp
  rw [h_jcan hB hO hp ha hv e813 e0 e6, Option.bind_some]
  by_cases c1 : p = 0 ∨ z.mny a = true ∨ v = 0
  · rw [decide_eq_false (fun w => w c1), if_neg (by decide), if_pos c1]; rfl
  · rw [decide_eq_true c1, if_pos (by decide), if_neg c1, show am_ix 0 12 = some 0 from by decide, Option.bind_some, e813, e0, h_pledged hB hO.x hfc hO.mpl hp ha, Option.bind_some, show am_ix 0 4 = some 0 from by decide, Option.bind_some, e6, lI_sub]
    have hsec : x.mny = false := by
      cases h : x.mny with
      | false => rfl
      | true => exact absurd (Or.inr (Or.inl (by rw [hmx, h]))) c1
    have e : 0 ≤ lg_cmp (lI (z.pl (64 * p + a) - v)) 0 ↔ 0 ≤ z.pl (64 * p + a) - v := cmp0_ge (by omega)
    by_cases c2 : z.pl (64 * p + a) < v
    · rw [if_neg (fun w => by have := e.mp w; omega), if_pos c2]; rfl
    · obtain ⟨V, hV⟩ : ∃ V : Nat, (V : Int) = z.pl (64 * p + a) - v := ⟨(z.pl (64 * p + a) - v).toNat, by omega⟩
      have hcp := h_crPl hB hO.x (hO.c hn) hfc hO.mpl hp hx hsec (v := V) (by omega)
      have hcw := uPl_crd z hast (p := p) ha (V : Int)
      have hw1 := uPl_wor1 z p a (V : Int) hx hsec
      have hw0 : z.wor p a = wth (z.pl (64 * p + a)).toNat x.prc x.cut := by
        unfold Z.wor
        rw [hx]
        show (if x.mny = true then 0 else _) = _
        rw [hsec]; rfl
      have hmo : wth (V : Int).toNat x.prc x.cut ≤ wth (z.pl (64 * p + a)).toNat x.prc x.cut := wth_mono _ _ (by omega)
      rw [← hw0, ← hw1] at hmo
      have hle : (z.uPl (64 * p + a) V).crd p ≤ 4000000000000000000 := by omega
      rw [if_pos (e.mpr (by omega)), if_neg c2, ← hV, hcp, Option.bind_some, h_can_cr hB hO.x (fun P => by have := hO.pos P; omega) hp (c := (z.uPl (64 * p + a) V).crd p) (by omega), Option.bind_some]
      unfold Z.bel
      have hfe : (z.uPl (64 * p + a) V).fc = z.fc := rfl
      have hpe : (z.uPl (64 * p + a) V).pos = z.pos := rfl
      rw [hfe, hpe, Nat.min_eq_left (show (z.uPl (64 * p + a) V).crd p ≤ mostN + 1 by unfold mostN; omega)]
      cases z.fc with
      | none => rfl
      | some b =>
        show (if b2i (decide (-((z.uPl (64 * p + a) V).crd p : Int) ≤ z.pos (64 * p + b))) = 0 then some 9 else some 0) = some (nI (if decide (z.pos (64 * p + b) < -((z.uPl (64 * p + a) V).crd p : Int)) then 9 else 0))
        by_cases c3 : -((z.uPl (64 * p + a) V).crd p : Int) ≤ z.pos (64 * p + b)
        · rw [decide_eq_true c3, decide_eq_false (by omega), if_neg (by decide), if_neg (by decide)]; rfl
        · rw [decide_eq_false c3, decide_eq_true (by omega), if_pos (by decide), if_pos rfl]; rfl
