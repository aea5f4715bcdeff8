/-! Judging pledges: the class. -/
def vPlg (z : Z) (p a v : Nat) : Nat := if p = 0 ∨ z.mny a = true ∨ v = 0 then 8 else if z.pos (64 * p + a) < z.pl (64 * p + a) + v then 9 else if mostN < (z.uPl (64 * p + a) (z.pl (64 * p + a) + v)).all then 10 else 0
theorem h_jcan {n : Nat} {S : hS} {z : Z} {g : hG} (hB : HB S z g) (hO : okZ n z) {p a v : Nat} (hp : p < z.mem.length) (ha : a < z.ast.length) (hv : v < 1000000000000000) (e813 : S.2.1 813 2 = nI p) (e0 : S.2.2.2.2.1 5 0 = nI a) (e6 : S.2.2.2.2.2.1 6 0 = lI (v : Int)) : h_De_canBePledged S = some (b2i (decide (¬ (p = 0 ∨ z.mny a = true ∨ v = 0)))) := by
  have hm := hO.mem
  have hast := hO.ast
  obtain ⟨x, hx, hA⟩ := hB.a ha
  have hmx := mny_some hx
  unfold h_De_canBePledged
  rw [e813]
  by_cases c1 : p = 0
  · rw [if_pos ((nI_e0 (by omega)).mpr c1), decide_eq_false (fun w => w (Or.inl c1))]; rfl
  · rw [if_neg (fun w => c1 ((nI_e0 (by omega)).mp w)), show am_ix 0 12 = some 0 from by decide, Option.bind_some, e0, ix_N (by omega) (by omega), Option.bind_some, hA.at, Option.bind_some, hA.sec]
    cases hmy : x.mny with
    | true =>
      rw [if_pos (by decide), decide_eq_false (fun w => w (Or.inr (Or.inl (by rw [hmx, hmy]))))]; rfl
    | false =>
      rw [if_neg (by decide), show am_ix 0 4 = some 0 from by decide, Option.bind_some, e6]
      by_cases c2 : v = 0
      · rw [if_pos ((lI_c0 hv).mpr c2), decide_eq_false (fun w => w (Or.inr (Or.inr c2)))]; rfl
      · rw [if_neg (fun w => c2 ((lI_c0 hv).mp w)), decide_eq_true (show ¬ (p = 0 ∨ z.mny a = true ∨ v = 0) from fun w => by
          rcases w with w | w | w
          · exact c1 w
          · rw [hmx, hmy] at w; cases w
          · exact c2 w)]; rfl
theorem h_jplg {n : Nat} {S : hS} {z : Z} {g : hG} (hB : HB S z g) (hO : okZ n z) (hn : n ≤ 512) {p a v : Nat} (hp : p < z.mem.length) (ha : a < z.ast.length) (hv : v < 1000000000000000) (e813 : S.2.1 813 2 = nI p) (e0 : S.2.2.2.2.1 5 0 = nI a) (e6 : S.2.2.2.2.2.1 6 0 = lI (v : Int)) : h_De_judgePledge S = some (nI (vPlg z p a v)) := by
  have hm := hO.mem
  have hast := hO.ast
  have hbig : big n ≤ 2048000000000000000 := by unfold big; omega
  have hpl := hO.pl (64 * p + a)
  have hps := hO.pos (64 * p + a)
  have hcrd := hO.crd
  have hc1 := hO.crd1 hp
  have htot := hO.tot
  unfold mostN at hcrd hc1
  obtain ⟨x, hx, hA⟩ := hB.a ha
  have hmx := mny_some hx
  obtain ⟨cc, hcc, hM⟩ := hB.p hp
  have hfc : ∀ a, z.fc = some a → z.mny a = true := fun a q => (hO.fc a q).2
  unfold h_De_judgePledge vPlg
  rw [h_jcan hB hO hp ha hv e813 e0 e6, Option.bind_some]
  by_cases c1 : p = 0 ∨ z.mny a = true ∨ v = 0
  · rw [decide_eq_false (fun w => w c1), if_neg (by decide), if_pos c1]; rfl
  · rw [decide_eq_true c1, if_pos (by decide), if_neg c1, show am_ix 0 12 = some 0 from by decide, Option.bind_some, e813, e0, h_pledged hB hO.x hfc hO.mpl hp ha, Option.bind_some, show am_ix 0 4 = some 0 from by decide, Option.bind_some, h_level hB hO.x hp ha, Option.bind_some, e6, lI_add]
    have hsec : x.mny = false := by
      cases h : x.mny with
      | false => rfl
      | true => exact absurd (Or.inr (Or.inl (by rw [hmx, h]))) c1
    have e : lg_cmp (lI (z.pl (64 * p + a) + v)) (lI (z.pos (64 * p + a))) ≤ 0 ↔ z.pl (64 * p + a) + v ≤ z.pos (64 * p + a) := cmp_le0 (by omega) (by omega)
    by_cases c2 : z.pos (64 * p + a) < z.pl (64 * p + a) + v
    · rw [if_neg (fun w => by have := e.mp w; omega), if_pos c2]; rfl
    · obtain ⟨V, hV⟩ : ∃ V : Nat, (V : Int) = z.pl (64 * p + a) + v := ⟨(z.pl (64 * p + a) + v).toNat, by omega⟩
      have hcp := h_crPl hB hO.x (hO.c hn) hfc hO.mpl hp hx hsec (v := V) (by omega)
      have hal := uPl_all z hast hp ha (z.pl (64 * p + a) + v)
      rw [if_pos (e.mpr (by omega)), if_neg c2, ← hV, hcp, Option.bind_some]
      rw [← hV] at hal
      have hcw := uPl_crd z hast (p := p) ha (V : Int)
      have hw1 := uPl_wor1 z p a (V : Int) hx hsec
      have hw2 : wth (V : Int).toNat x.prc x.cut ≤ 4000000000000000001 := Nat.min_le_right _ _
      rw [← hw1] at hw2
      unfold h_Bo_allCreditIf
      rw [ix_N (by omega) (by omega), Option.bind_some, hM.at, Option.bind_some, Option.bind_some, hB.all, hM.crd, lI_sub, lI_add, show (z.all : Int) - (z.crd p : Int) + ((z.uPl (64 * p + a) V).crd p : Nat) = (((z.uPl (64 * p + a) V).all : Nat) : Int) by omega, show Int64.ofNat 4000000000000000000 = lI 4000000000000000000 from rfl]
      have e2 : lg_cmp (lI (((z.uPl (64 * p + a) V).all : Nat) : Int)) (lI 4000000000000000000) ≤ 0 ↔ (((z.uPl (64 * p + a) V).all : Nat) : Int) ≤ 4000000000000000000 := cmp_le0 (by omega) (by omega)
      unfold mostN
      by_cases c3 : 4000000000000000000 < (z.uPl (64 * p + a) V).all
      · rw [if_neg (fun w => by have := e2.mp w; omega), if_pos c3]; rfl
      · rw [if_pos (e2.mpr (by omega)), if_neg c3]; rfl
