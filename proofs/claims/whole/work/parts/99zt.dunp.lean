/-! Judging pledges: the reference. -/
theorem okC.uPl {z : Z} (h : okC z) {P : Nat} {v : Int} (h1 : 0 ≤ v) (h2 : v ≤ 4000000000000000000) : okC (z.uPl P v) := by
  obtain ⟨c1, c2, c3⟩ := h
  refine ⟨c1, c2, fun Q => ?_⟩
  rw [uPl_pl]
  split
  · exact ⟨h1, h2⟩
  · exact c3 Q
theorem d_junp {n : Nat} {s : mS} {z : Z} (hB : MB s z) (hO : okZ n z) (hn : n ≤ 512) {M : List Nat} (hT : TXT (s.2.2.1 24) M.length M) (hN : M.length ≤ 400) (h33 : 33 ≤ M.length) (h4 : s.1 4 = nI 12) {p a v : Nat} (h5 : s.1 5 = nI p) (hp : p < z.mem.length) (hwa : z.fa (sl M 15 3) = some a) (hD : isD (sl M 18 15) = true) (hnum : num (sl M 18 15) = v) (hv : v < 1000000000000000) : d_Mo_pledgeFault s = some (nI (vUnp z p a v), s) := by
  have hm := hO.mem
  have hast := hO.ast
  have ha := fa_lt hwa
  have hbig : big n ≤ 2048000000000000000 := by unfold big; omega
  have htot := hO.tot
  have hpl := hO.pl (64 * p + a)
  obtain ⟨x, hx⟩ := get_lt (ks := z.ast) (j := a) ha
  have hmx := mny_some hx
  obtain ⟨b1, b2, b3, b4⟩ := hB.2.2.2.1 a x hx
  have d1 : d_Mo_assetAt 15 s = some (oI (z.fa (sl M 15 3))) := d_ast hT hN hB hO.ast (fun x hx => ⟨(hO.acd x hx).1, (hO.acd x hx).2.1⟩) 15 (by omega)
  rw [hwa] at d1
  have d1' : d_Mo_assetAt 15 s = some (nI a) := d1
  have d2 : d_Mo_number 18 15 s = some (lI (num (sl M 18 15) : Nat)) := d_nmb hT hN 18 15 (by omega) hD
  rw [hnum] at d2
  have i1 : 64 * nI p + nI a = nI (64 * p + a) := by rw [show (64 : Int32) = nI 64 from rfl, nI_mul, nI_add']
  have p32 : s.2.2.2 32 (64 * p + a) = lI (z.pl (64 * p + a)) := hB.2.2.2.2.2.2.1 _ (by omega)
  have e : lg_cmp (lI (v : Int)) (lI (z.pl (64 * p + a))) ≤ 0 ↔ (v : Int) ≤ z.pl (64 * p + a) := cmp_le0 (by omega) (by omega)
  have hback := mB_back s 32 (64 * p + a) (lI (z.pl (64 * p + a) - v))
  rw [p32] at hback
  unfold d_Mo_pledgeFault vUnp
  rw [d1', Option.bind_some, d2, Option.bind_some, h5]
  by_cases c1 : p = 0
  · rw [if_pos ((nI_e0 (by omega)).mpr c1), if_pos (Or.inl c1)]; rfl
  · rw [if_neg (fun w => c1 ((nI_e0 (by omega)).mp w)), ix_N (by omega) (by omega), Option.bind_some, b2]
    cases hmy : x.mny with
    | true => rw [if_pos (by decide), if_pos (Or.inr (Or.inl (by rw [hmx, hmy])))]; rfl
    | false =>
      rw [if_neg (by decide)]
      by_cases c2 : v = 0
      · rw [if_pos ((lI_c0 hv).mpr c2), if_pos (Or.inr (Or.inr c2))]; rfl
      · have hne : ¬ (p = 0 ∨ z.mny a = true ∨ v = 0) := fun w => by
          rcases w with w | w | w
          · exact c1 w
          · rw [hmx, hmy] at w; cases w
          · exact c2 w
        rw [if_neg (fun w => c2 ((lI_c0 hv).mp w)), if_neg hne, h4, if_neg (by decide), i1, ix_N (by omega) (by omega), Option.bind_some, p32]
        by_cases c3 : z.pl (64 * p + a) < v
        · rw [if_neg (fun w => by have := e.mp w; omega), if_pos c3]; rfl
        · have hbe := d_below (hB.uPl (64 * p + a) (z.pl (64 * p + a) - v)) ((hO.c hn).uPl (P := 64 * p + a) (v := z.pl (64 * p + a) - v) (by omega) (by omega)) (fun b q => (hO.fc b q).1) (fun P => by have := hO.pos P; show inL (z.pos P); omega) (p := p) (by omega)
          rw [if_pos (e.mpr (by omega)), if_neg c3, if_pos (by decide), if_pos (by decide), Option.bind_some, lI_sub, hbe, Option.bind_some, if_pos (by decide), Option.bind_some, hback]
          cases (z.uPl (64 * p + a) (z.pl (64 * p + a) - v)).bel p with
          | true => rw [if_neg (by decide), if_pos rfl]; rfl
          | false => rw [if_pos (by decide), if_pos (by decide), if_neg (by decide)]; rfl
