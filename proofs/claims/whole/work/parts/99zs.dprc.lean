theorem d_jprc {n : Nat} {s : mS} {z : Z} (hB : MB s z) (hO : okZ n z) (hn : n ≤ 512) {M : List Nat} (hT : TXT (s.2.2.1 24) M.length M) (hN : M.length ≤ 400) (h35 : 35 ≤ M.length) {a prc cut : Nat} (hwa : z.fa (sl M 15 3) = some a) (hD : isD (sl M 18 15) = true) (hnum : num (sl M 18 15) = prc) (hD2 : isD (sl M 33 2) = true) (hnum2 : num (sl M 33 2) = cut) (h1 : prc < 1000000000000000) (h2 : cut < 100) : d_Mo_priceFault s = some (nI (vPrc z a prc cut), s) := by
  have hm := hO.mem
  have hast := hO.ast
  have ha := fa_lt hwa
  have hbig : big n ≤ 2048000000000000000 := by unfold big; omega
  have htot := hO.tot
  obtain ⟨x, hx⟩ := get_lt (ks := z.ast) (j := a) ha
  have hmx := mny_some hx
  obtain ⟨b1, b2, b3, b4⟩ := hB.2.2.2.1 a x hx
  have d1 : d_Mo_assetAt 15 s = some (oI (z.fa (sl M 15 3))) := d_ast hT hN hB hO.ast (fun x hx => ⟨(hO.acd x hx).1, (hO.acd x hx).2.1⟩) 15 (by omega)
  rw [hwa] at d1
  have d1' : d_Mo_assetAt 15 s = some (nI a) := d1
  have d2 : d_Mo_number 18 15 s = some (lI (num (sl M 18 15) : Nat)) := d_nmb hT hN 18 15 (by omega) hD
  rw [hnum] at d2
  have d3 : d_Mo_number 33 2 (mB s 29 a (lI (prc : Int))) = some (lI (num (sl M 33 2) : Nat)) := d_nmb (s := mB s 29 a (lI (prc : Int))) hT hN 33 2 (by omega) hD2
  rw [hnum2] at d3
  have hB' := hB.uPrc a prc cut
  have hC' := (hO.c hn).uPrc (a := a) h1 h2
  have hf' : ∀ b, (z.uPrc a prc cut).fc = some b → b < (z.uPrc a prc cut).ast.length := fun b q => by rw [uPrc_len]; exact (hO.fc b q).1
  have hlp := d_jprc_loop hB' hC' hf' (fun P => by have := hO.pos P; show inL (z.pos P); omega) hm.2 (nI a) (s.2.2.2 29 a) (s.2.2.1 30 a) _ 100000 1 false rfl (by show z.mem.length - 1 < 100000; omega) hm.1 (Nat.le_refl _)
  rw [Bool.false_or] at hlp
  have hlp' : l_Mo_priceFault_68 100000 (nI a) (s.2.2.2 29 a) (s.2.2.1 30 a) 0 1 (mA (mB s 29 a (lI (prc : Int))) 30 a (nI cut)) = some (b2i (anyB (z.uPrc a prc cut) 1 (z.mem.length - 1))) := hlp
  have hall := d_all hB' hC' hm (fun P hP => hO.bank P hP)
  have hany : anyB (z.uPrc a prc cut) 0 z.mem.length = anyB (z.uPrc a prc cut) 1 (z.mem.length - 1) := by
    obtain ⟨m, hmm⟩ : ∃ m, z.mem.length = m + 1 := ⟨z.mem.length - 1, by omega⟩
    rw [hmm, Nat.add_sub_cancel]
    conv => lhs; unfold anyB
    rw [decide_eq_false (by decide), Bool.false_and, Bool.false_or]
  have e2 : lg_cmp (lI ((min (z.uPrc a prc cut).all (mostN + 1) : Nat) : Int)) (lI 4000000000000000000) ≤ 0 ↔ ((min (z.uPrc a prc cut).all (mostN + 1) : Nat) : Int) ≤ 4000000000000000000 := cmp_le0 (by unfold mostN; omega) (by omega)
  unfold d_Mo_priceFault vPrc
  rw [d1', Option.bind_some, ix_N (by omega) (by omega), Option.bind_some, b2, hmx, hany]
  cases hmy : x.mny with
  | true => rw [if_neg (by decide), if_pos rfl]; rfl
  | false =>
    rw [if_pos (by decide), if_neg (by decide), d2, Option.bind_some, d3, Option.bind_some, lI_to32, hlp', Option.bind_some, hall, Option.bind_some, show Int64.ofNat 4000000000000000000 = lI 4000000000000000000 from rfl, mAB_back]
    unfold mostN at e2 ⊢
    cases anyB (z.uPrc a prc cut) 1 (z.mem.length - 1) with
    | true =>
      by_cases c3 : 4000000000000000000 < (z.uPrc a prc cut).all
      · rw [if_neg (fun w => by have := e2.mp w; omega), Option.bind_some, if_neg (by decide), if_pos rfl]; rfl
      · rw [if_pos (e2.mpr (by omega)), Option.bind_some, if_neg (by decide), if_pos rfl]; rfl
    | false =>
      by_cases c3 : 4000000000000000000 < (z.uPrc a prc cut).all
      · rw [if_neg (fun w => by have := e2.mp w; omega), Option.bind_some, if_pos (by decide), if_neg (by decide), if_neg (by decide), if_pos c3]; rfl
      · rw [if_pos (e2.mpr (by omega)), Option.bind_some, if_pos (by decide), if_pos (by decide), if_neg (by decide), if_neg c3]; rfl
