theorem d_jplg {n : Nat} {s : mS} {z : Z} (hB : MB s z) (hO : okZ n z) (hn : n ≤ 512) {M : List Nat} (hT : TXT (s.2.2.1 24) M.length M) (hN : M.length ≤ 400) (h33 : 33 ≤ M.length) (h4 : s.1 4 = nI 11) {p a v : Nat} (h5 : s.1 5 = nI p) (hp : p < z.mem.length) (hwa : z.fa (sl M 15 3) = some a) (hD : isD (sl M 18 15) = true) (hnum : num (sl M 18 15) = v) (hv : v < 1000000000000000) (hg : ∀ b, z.fc = some b → p ≠ 0 → -(z.crd p : Int) ≤ z.pos (64 * p + b)) : d_Mo_pledgeFault s = some (nI (vPlg z p a v), s) := by
  have hm := hO.mem
  have hast := hO.ast
  have ha := fa_lt hwa
  have hbig : big n ≤ 2048000000000000000 := by unfold big; omega
  have htot := hO.tot
  have hpl := hO.pl (64 * p + a)
  have hps := hO.pos (64 * p + a)
  have hc1 := hO.crd1 hp
  obtain ⟨x, hx⟩ := get_lt (ks := z.ast) (j := a) ha
  have hmx := mny_some hx
  obtain ⟨b1, b2, b3, b4⟩ := hB.2.2.2.1 a x hx
  have d1 : d_Mo_assetAt 15 s = some (oI (z.fa (sl M 15 3))) := d_ast hT hN hB hO.ast (fun x hx => ⟨(hO.acd x hx).1, (hO.acd x hx).2.1⟩) 15 (by omega)
  rw [hwa] at d1
  have d1' : d_Mo_assetAt 15 s = some (nI a) := d1
  have d2 : d_Mo_number 18 15 s = some (lI (num (sl M 18 15) : Nat)) := d_nmb hT hN 18 15 (by omega) hD
  rw [hnum] at d2
  have i1 : 64 * nI p + nI a = nI (64 * p + a) := by rw [show (64 : Int32) = nI 64 from rfl, nI_mul, nI_add']
  have p32 : s.2.2.2 32 (64 * p + a) = lI (z.pl (64 * p + a)) := hB.2.2.2.2.2.2.1 _ (by omega)
  have p31 : s.2.2.2 31 (64 * p + a) = lI (z.pos (64 * p + a)) := hB.pos _ (by omega)
  have e : lg_cmp (lI (z.pl (64 * p + a) + v)) (lI (z.pos (64 * p + a))) ≤ 0 ↔ z.pl (64 * p + a) + v ≤ z.pos (64 * p + a) := cmp_le0 (by omega) (by omega)
  have hback := mB_back s 32 (64 * p + a) (lI (z.pl (64 * p + a) + v))
  rw [p32] at hback
  unfold d_Mo_pledgeFault vPlg
  rw [d1', Option.bind_some, d2, Option.bind_some, h5]
  by_cases c1 : p = 0
  · rw [if_pos ((nI_e0 (by omega)).mpr c1), if_pos (Or.inl c1)]; rfl
  · rw [if_neg (fun w => c1 ((nI_e0 (by omega)).mp w)), ix_N (by omega) (by omega), Option.bind_some, b2]
    cases hmy : x.mny with
    | true => rw [if_pos (by decide), if_pos (Or.inr (Or.inl (by rw [hmx, hmy])))]; rfl
    | false =>
      rw [if_neg (by decide)]
      by_cases c2 : v = 0
      · rw [if_pos ((lI_c0 hv).mpr c2), if_pos (Or.inr (Or.inr c2))]; rfl
      · have hne : ¬ (p = 0 ∨ z.mny a = true ∨ v = 0) := fun w => by
          rcases w with w | w | w
          · exact c1 w
          · rw [hmx, hmy] at w; cases w
          · exact c2 w
        rw [if_neg (fun w => c2 ((lI_c0 hv).mp w)), if_neg hne, h4, if_pos (by decide), if_neg (by decide), i1, ix_N (by omega) (by omega), Option.bind_some, p32, p31, lI_add]
        by_cases c3 : z.pos (64 * p + a) < z.pl (64 * p + a) + v
        · rw [if_neg (fun w => by have := e.mp w; omega), if_pos c3]; rfl
        · have hC' := (hO.c hn).uPl (P := 64 * p + a) (v := z.pl (64 * p + a) + v) (by omega) (by omega)
          have hB' := hB.uPl (64 * p + a) (z.pl (64 * p + a) + v)
          have hbe := d_below hB' hC' (fun b q => (hO.fc b q).1) (fun P => by have := hO.pos P; show inL (z.pos P); omega) (p := p) (by omega)
          have hall := d_all hB' hC' hm (fun P hP => by rw [uPl_pl, if_neg (by omega)]; exact hO.bank P hP)
          have hcw := uPl_crd z hast (p := p) ha (z.pl (64 * p + a) + v)
          have hw1 := uPl_wor1 z p a (z.pl (64 * p + a) + v) hx hmy
          have hw0 : z.wor p a = wth (z.pl (64 * p + a)).toNat x.prc x.cut := by
            unfold Z.wor
            rw [hx]
            show (if x.mny = true then 0 else _) = _
            rw [hmy]; rfl
          have hmo : wth (z.pl (64 * p + a)).toNat x.prc x.cut ≤ wth (z.pl (64 * p + a) + v).toNat x.prc x.cut := wth_mono _ _ (by omega)
          rw [← hw0, ← hw1] at hmo
          have hbf : (z.uPl (64 * p + a) (z.pl (64 * p + a) + v)).bel p = false := by
            unfold Z.bel
            have hfe : (z.uPl (64 * p + a) (z.pl (64 * p + a) + v)).fc = z.fc := rfl
            rw [hfe]
            cases hfc : z.fc with
            | none => rfl
            | some b =>
              have := hg b hfc c1
              refine decide_eq_false (show ¬ z.pos (64 * p + b) < _ from ?_)
              omega
          rw [hbf] at hbe
          have e2 : lg_cmp (lI ((min (z.uPl (64 * p + a) (z.pl (64 * p + a) + v)).all (mostN + 1) : Nat) : Int)) (lI 4000000000000000000) ≤ 0 ↔ ((min (z.uPl (64 * p + a) (z.pl (64 * p + a) + v)).all (mostN + 1) : Nat) : Int) ≤ 4000000000000000000 := cmp_le0 (by unfold mostN; omega) (by omega)
          rw [if_pos (e.mpr (by omega)), if_neg c3, if_neg (by decide), Option.bind_some, hbe, Option.bind_some, if_neg (by decide), hall, Option.bind_some, show Int64.ofNat 4000000000000000000 = lI 4000000000000000000 from rfl, hback]
          unfold mostN at e2 ⊢
          by_cases c4 : 4000000000000000000 < (z.uPl (64 * p + a) (z.pl (64 * p + a) + v)).all
          · rw [if_neg (fun w => by have := e2.mp w; omega), Option.bind_some, if_pos (by decide), if_neg (by decide), if_pos c4]; rfl
          · rw [if_pos (e2.mpr (by omega)), Option.bind_some, if_pos (by decide), if_pos (by decide), if_neg c4]; rfl
