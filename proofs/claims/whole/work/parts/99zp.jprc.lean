/-! Judging a price: the class. -/
/-- is one of them below, from j on; not the bank -/
def anyB (z : Z) : Nat → Nat → Bool
  | _, 0 => false
  | j, d + 1 => (decide (j ≠ 0) && z.bel j) || anyB z (j + 1) d
def vPrc (z : Z) (a prc cut : Nat) : Nat := if z.mny a = true then 8 else if anyB (z.uPrc a prc cut) 0 z.mem.length then 9 else if mostN < (z.uPrc a prc cut).all then 10 else 0
theorem h_jprc_loop {n : Nat} {S : hS} {z : Z} {g : hG} (hB : HB S z g) (hO : okZ n z) (hn : n ≤ 512) {a prc cut : Nat} {x : Ast} (hx : z.ast[a]? = some x) (hsec : x.mny = false) (h1 : prc < 1000000000000000) (h2 : cut < 100) (hb : ∀ p, p < z.mem.length → (z.uPrc a prc cut).crd p ≤ 8000000000000000001) (e816 : S.2.1 816 2 = nI cut) : ∀ (d fu j : Nat), z.mem.length - j = d → d < fu → j ≤ z.mem.length → hl_De_judgePrice_35 fu (nI a) (lI prc) (nI j) S = some (nI (if anyB (z.uPrc a prc cut) j d then 9 else if mostN < (z.uPrc a prc cut).all then 10 else 0)) := by
  have hm := hO.mem
  have hast := hO.ast
  have ha := get_lt' hx
  have hbig : big n ≤ 2048000000000000000 := by unfold big; omega
  have htot := hO.tot
  have hfc : ∀ a, z.fc = some a → z.mny a = true := fun a q => (hO.fc a q).2
  have hps : ∀ P, -3000000000000000000 ≤ z.pos P ∧ z.pos P ≤ 3000000000000000000 := fun P => by have := hO.pos P; omega
  intro d
  induction d with
  | zero =>
    intro fu j hd hf hj
    obtain ⟨fu, rfl⟩ : ∃ f, fu = f + 1 := ⟨fu - 1, by omega⟩
    have e2 : lg_cmp (lI ((min (z.uPrc a prc cut).all (mostN + 1) : Nat) : Int)) (lI 4000000000000000000) ≤ 0 ↔ ((min (z.uPrc a prc cut).all (mostN + 1) : Nat) : Int) ≤ 4000000000000000000 := cmp_le0 (by unfold mostN; omega) (by omega)
    unfold hl_De_judgePrice_35
    rw [hB.mem, if_pos (nI_le0 (by omega) (by omega) (by omega)), e816, h_allPr hB hO.x (hO.c hn) hfc hO.mpl hx hsec h1 h2 hb, Option.bind_some, show Int64.ofNat 4000000000000000000 = lI 4000000000000000000 from rfl]
    unfold anyB
    rw [if_neg (show ¬ false = true by decide)]
    unfold mostN at e2 ⊢
    by_cases c3 : 4000000000000000000 < (z.uPrc a prc cut).all
    · rw [if_neg (fun w => by have := e2.mp w; omega), if_pos c3]; rfl
    · rw [if_pos (e2.mpr (by omega)), if_neg c3]; rfl
  | succ d ih =>
    intro fu j hd hf hj
    obtain ⟨fu, rfl⟩ : ∃ f, fu = f + 1 := ⟨fu - 1, by omega⟩
    have IH := ih fu (j + 1) (by omega) (by omega) (by omega)
    unfold hl_De_judgePrice_35
    rw [hB.mem, if_neg (nI_ngt (by omega) (by omega) (by omega)), nI_add1]
    unfold anyB
    by_cases c0 : j = 0
    · rw [if_pos ((nI_e0 (by omega)).mpr c0), decide_eq_false (fun w => w c0), Bool.false_and, Bool.false_or]; exact IH
    · obtain ⟨cc, hcc, hM⟩ := hB.p (p := j) (by omega)
      have hcp : h_Bo_creditIfPriced (nI j) (nI a) (lI prc) (nI cut) S = some (lI ((z.uPrc a prc cut).crd j : Nat)) := h_crPr (l := S.2.2.1) hB hO.x (hO.c hn) hfc hO.mpl (p := j) (by omega) hx hsec h1 h2 (fun _ _ _ _ => rfl) hM.crd (fun y hy => (hB.tab.pos _ _ hy).flr (Or.inl (by omega)))
      have hbj := hb j (by omega)
      have hcan := h_can_cr hB hO.x hps (p := j) (by omega) (c := (z.uPrc a prc cut).crd j) (by omega)
      have hbel : (match z.fc with | none => true | some b => decide (-((z.uPrc a prc cut).crd j : Int) ≤ z.pos (64 * j + b))) = !((z.uPrc a prc cut).bel j) := by
        unfold Z.bel
        have hfe : (z.uPrc a prc cut).fc = z.fc := rfl
        have hpe : (z.uPrc a prc cut).pos = z.pos := rfl
        rw [hfe, hpe]
        cases z.fc with
        | none => rfl
        | some b =>
          have := hps (64 * j + b)
          show decide (-((z.uPrc a prc cut).crd j : Int) ≤ z.pos (64 * j + b)) = !(decide (z.pos (64 * j + b) < -((min ((z.uPrc a prc cut).crd j) (mostN + 1) : Nat) : Int)))
          unfold mostN
          by_cases c : -((z.uPrc a prc cut).crd j : Int) ≤ z.pos (64 * j + b)
          · rw [decide_eq_true c, decide_eq_false (by omega)]; rfl
          · rw [decide_eq_false c, decide_eq_true (by omega)]; rfl
      have hcan' := hcan.trans (congrArg (fun b => some (b2i b)) hbel)
      rw [if_neg (fun w => c0 ((nI_e0 (by omega)).mp w)), e816, hcp, Option.bind_some, hcan', Option.bind_some, decide_eq_true c0, Bool.true_and]
      cases (z.uPrc a prc cut).bel j with
      | true => rw [if_neg (by decide), Bool.true_or, if_pos rfl]; rfl
      | false => rw [if_pos (by decide), Bool.false_or]; exact IH
theorem h_jprc {n : Nat} {S : hS} {z : Z} {g : hG} (hB : HB S z g) (hO : okZ n z) (hn : n ≤ 512) {a prc cut : Nat} (ha : a < z.ast.length) (h1 : prc < 1000000000000000) (h2 : cut < 100) (hb : ∀ p, p < z.mem.length → (z.uPrc a prc cut).crd p ≤ 8000000000000000001) (e816 : S.2.1 816 2 = nI cut) (e0 : S.2.2.2.2.1 5 0 = nI a) (e6 : S.2.2.2.2.2.1 6 0 = lI (prc : Int)) : h_De_judgePrice S = some (nI (vPrc z a prc cut)) := by
  have hm := hO.mem
  have hast := hO.ast
  obtain ⟨x, hx, hA⟩ := hB.a ha
  have hmx := mny_some hx
  unfold h_De_judgePrice vPrc
  rw [show am_ix 0 12 = some 0 from by decide, Option.bind_some, show am_ix 0 4 = some 0 from by decide, Option.bind_some, e0, ix_N (by omega) (by omega), Option.bind_some, hA.at, Option.bind_some, hA.sec, e6, hmx]
  cases hmy : x.mny with
  | true => rw [if_neg (by decide), if_pos rfl]; rfl
  | false =>
    rw [if_pos (by decide), if_neg (by decide)]
    exact h_jprc_loop hB hO hn hx hmy h1 h2 hb e816 _ 100000 0 rfl (by omega) (by omega)
