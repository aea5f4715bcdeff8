/-! The reference looks for the codes. -/
theorem cdF_s {z : Z} {c : Bool × List Nat} {v : Nat} (h : cdO z c = some v) (l : List (Bool × List Nat)) : cdF z (c :: l) = cdF z l := by
  conv => lhs; unfold cdF
  rw [h]
theorem cdF_n {z : Z} {c : Bool × List Nat} (h : cdO z c = none) (l : List (Bool × List Nat)) : cdF z (c :: l) = if c.1 then 5 else 4 := by
  conv => lhs; unfold cdF
  rw [h]
theorem d_code_loop {n : Nat} {s : mS} {z : Z} (hB : MB s z) (hO : okZ n z) {N : Nat} {M : List Nat} (hT : TXT (s.2.2.1 24) N M) (hN : N ≤ 400) {m : Nat} (hm4 : m ≤ 4) (hl : 17 + 26 * m ≤ N) (h16 : s.2.2.1 24 16 - 48 = nI m) : ∀ (d fu j : Nat), m - j = d → d < fu → j ≤ m → l_Mo_codeFault_124 fu (nI j) s = some (nI (cdF z (legsD M j d))) := by
  have hm := hO.mem
  have ha := hO.ast
  intro d
  induction d with
  | zero =>
    intro fu j hd hf hj
    obtain ⟨fu, rfl⟩ : ∃ f, fu = f + 1 := ⟨fu - 1, by omega⟩
    unfold l_Mo_codeFault_124
    rw [show am_ix 16 400 = some 16 from by decide, Option.bind_some, h16, if_pos (nI_le0 (by omega) (by omega) (by omega))]; rfl
  | succ d ih =>
    intro fu j hd hf hj
    obtain ⟨fu, rfl⟩ : ∃ f, fu = f + 1 := ⟨fu - 1, by omega⟩
    have i1 : 17 + 26 * nI j = nI (17 + 26 * j) := by rw [show (26 : Int32) = nI 26 from rfl, nI_mul, show (17 : Int32) = nI 17 from rfl, nI_add']
    have i2 : nI (17 + 26 * j) + 4 = nI (17 + 26 * j + 4) := nI_add' _ 4
    have i3 : nI (17 + 26 * j) + 8 = nI (17 + 26 * j + 8) := nI_add' _ 8
    have d1 := d_mem hT hN hB hm.2 hO.cod (17 + 26 * j) (by omega)
    have d2 := d_mem hT hN hB hm.2 hO.cod (17 + 26 * j + 4) (by omega)
    have d3 := d_ast hT hN hB hO.ast (fun x hx => ⟨(hO.acd x hx).1, (hO.acd x hx).2.1⟩) (17 + 26 * j + 8) (by omega)
    have l1 : ∀ {c : List Nat} v, z.fm c = some v → v < 256 := fun {c} v h => by have := (fm_lt h).1; omega
    have l2 : ∀ {c : List Nat} v, z.fa c = some v → v < 256 := fun {c} v h => by have := fa_lt h; omega
    have el : legsD M j (d + 1) = (false, sl M (17 + 26 * j) 4) :: (false, sl M (17 + 26 * j + 4) 4) :: (true, sl M (17 + 26 * j + 8) 3) :: legsD M (j + 1) d := rfl
    have IH := ih fu (j + 1) (by omega) (by omega) (by omega)
    unfold l_Mo_codeFault_124
    rw [show am_ix 16 400 = some 16 from by decide, Option.bind_some, h16, if_neg (nI_ngt (by omega) (by omega) (by omega)), i1, i2, i3, d1, Option.bind_some, el]
    cases h1 : z.fm (sl M (17 + 26 * j) 4) with
    | none =>
      rw [if_pos (show oI none < 0 by decide), cdF_n (c := (false, sl M (17 + 26 * j) 4)) h1]; rfl
    | some v1 =>
      rw [if_neg (fun q => by have := (oI_lt0 (o := some v1) (fun v hv => by cases hv; exact l1 _ h1)).mp q; cases this), d2, Option.bind_some, cdF_s (c := (false, sl M (17 + 26 * j) 4)) h1]
      cases h2 : z.fm (sl M (17 + 26 * j + 4) 4) with
      | none =>
        rw [if_neg (show ¬ 0 ≤ oI none by decide), cdF_n (c := (false, sl M (17 + 26 * j + 4) 4)) h2]; rfl
      | some v2 =>
        rw [if_pos ((oI_ge (o := some v2) (fun v hv => by cases hv; exact l1 _ h2)).mpr rfl), d3, Option.bind_some, cdF_s (c := (false, sl M (17 + 26 * j + 4) 4)) h2]
        cases h3 : z.fa (sl M (17 + 26 * j + 8) 3) with
        | none =>
          rw [if_neg (show ¬ 0 ≤ oI none by decide), cdF_n (c := (true, sl M (17 + 26 * j + 8) 3)) h3]; rfl
        | some v3 =>
          rw [if_pos ((oI_ge (o := some v3) (fun v hv => by cases hv; exact l2 _ h3)).mpr rfl), cdF_s (c := (true, sl M (17 + 26 * j + 8) 3)) h3, nI_add1]
          exact IH
theorem d_codes {n : Nat} {s : mS} {z : Z} (hB : MB s z) (hO : okZ n z) {M : List Nat} (hT : TXT (s.2.2.1 24) M.length M) (hN : M.length ≤ 400) {k : Nat} (hk : k < 15) (h4 : s.1 4 = nI k) (hln : M.length = 17 + fLen k M) (h16 : k = 5 → M.getD 16 0 ≤ 4 ∧ s.2.2.1 24 16 - 48 = nI (M.getD 16 0)) : d_Mo_codeFault s = some (nI (cdF z (cds k M))) := by
  have hm := hO.mem
  have ha := hO.ast
  have l1 : ∀ {c : List Nat} v, z.fm c = some v → v < 256 := fun {c} v h => by have := (fm_lt h).1; omega
  have l2 : ∀ {c : List Nat} v, z.fa c = some v → v < 256 := fun {c} v h => by have := fa_lt h; omega
  have cA : 18 ≤ M.length → ((d_Mo_assetAt 15 s).bind fun q3 => (if (0 : Int32) ≤ q3 then (some 0) else (some 5))) = some (nI (cdF z [(true, sl M 15 3)])) := fun hl => by
    have d3 : d_Mo_assetAt 15 s = some (oI (z.fa (sl M 15 3))) := d_ast hT hN hB hO.ast (fun x hx => ⟨(hO.acd x hx).1, (hO.acd x hx).2.1⟩) 15 hl
    rw [d3, Option.bind_some]
    cases h3 : z.fa (sl M 15 3) with
    | none => rw [if_neg (show ¬ 0 ≤ oI none by decide), cdF_n (c := (true, sl M 15 3)) h3]; rfl
    | some v => rw [if_pos ((oI_ge (o := some v) (fun v hv => by cases hv; exact l2 _ h3)).mpr rfl), cdF_s (c := (true, sl M 15 3)) h3]; rfl
  have cM : 19 ≤ M.length → ((d_Mo_memberAt 15 s).bind fun q88 => (if (0 : Int32) ≤ q88 then (some 0) else (some 4))) = some (nI (cdF z [(false, sl M 15 4)])) := fun hl => by
    have d3 : d_Mo_memberAt 15 s = some (oI (z.fm (sl M 15 4))) := d_mem hT hN hB hm.2 hO.cod 15 hl
    rw [d3, Option.bind_some]
    cases h3 : z.fm (sl M 15 4) with
    | none => rw [if_neg (show ¬ 0 ≤ oI none by decide), cdF_n (c := (false, sl M 15 4)) h3]; rfl
    | some v => rw [if_pos ((oI_ge (o := some v) (fun v hv => by cases hv; exact l1 _ h3)).mpr rfl), cdF_s (c := (false, sl M 15 4)) h3]; rfl
  have cB : 22 ≤ M.length → ((d_Mo_assetAt 15 s).bind fun q18 => (if (0 : Int32) ≤ q18 then ((d_Mo_memberAt 18 s).bind fun q30 => (if (0 : Int32) ≤ q30 then (some 0) else (some 4))) else (some 5))) = some (nI (cdF z [(true, sl M 15 3), (false, sl M 18 4)])) := fun hl => by
    have d3 : d_Mo_assetAt 15 s = some (oI (z.fa (sl M 15 3))) := d_ast hT hN hB hO.ast (fun x hx => ⟨(hO.acd x hx).1, (hO.acd x hx).2.1⟩) 15 (by omega)
    have d4 : d_Mo_memberAt 18 s = some (oI (z.fm (sl M 18 4))) := d_mem hT hN hB hm.2 hO.cod 18 hl
    rw [d3, Option.bind_some]
    cases h3 : z.fa (sl M 15 3) with
    | none => rw [if_neg (show ¬ 0 ≤ oI none by decide), cdF_n (c := (true, sl M 15 3)) h3]; rfl
    | some v =>
      rw [if_pos ((oI_ge (o := some v) (fun v hv => by cases hv; exact l2 _ h3)).mpr rfl), cdF_s (c := (true, sl M 15 3)) h3, d4, Option.bind_some]
      cases h5 : z.fm (sl M 18 4) with
      | none => rw [if_neg (show ¬ 0 ≤ oI none by decide), cdF_n (c := (false, sl M 18 4)) h5]; rfl
      | some v => rw [if_pos ((oI_ge (o := some v) (fun v hv => by cases hv; exact l1 _ h5)).mpr rfl), cdF_s (c := (false, sl M 18 4)) h5]; rfl
  unfold d_Mo_codeFault
  rw [h4]
  have : k = 0 ∨ k = 1 ∨ k = 2 ∨ k = 3 ∨ k = 4 ∨ k = 5 ∨ k = 6 ∨ k = 7 ∨ k = 8 ∨ k = 9 ∨ k = 10 ∨ k = 11 ∨ k = 12 ∨ k = 13 ∨ k = 14 := by omega
  rcases this with rfl | rfl | rfl | rfl | rfl | rfl | rfl | rfl | rfl | rfl | rfl | rfl | rfl | rfl | rfl
  · rw [if_neg (by decide), if_neg (by decide), if_neg (by decide), if_neg (by decide)]; rfl
  · rw [if_neg (by decide), if_neg (by decide), if_neg (by decide), if_neg (by decide)]; rfl
  · rw [if_pos (by decide)]; exact cA (by rw [hln]; simp [fLen])
  · rw [if_neg (by decide), if_pos (by decide)]; exact cB (by rw [hln]; simp [fLen])
  · rw [if_neg (by decide), if_pos (by decide)]; exact cB (by rw [hln]; simp [fLen])
  · rw [if_neg (by decide), if_neg (by decide), if_pos (by decide)]
    obtain ⟨p1, p2⟩ := h16 rfl
    have hl2 : M.length = 17 + (2 + 26 * M.getD 16 0) := hln
    have := d_code_loop hB hO hT hN p1 (by omega) p2 _ 100000 0 rfl (by omega) (Nat.zero_le _)
    show _ = some (nI (cdF z (legsC M (M.getD 16 0))))
    rw [legsC_D]
    exact this
  · rw [if_neg (by decide), if_neg (by decide), if_neg (by decide), if_pos (by decide)]; exact cM (by rw [hln]; simp [fLen])
  · rw [if_neg (by decide), if_neg (by decide), if_neg (by decide), if_neg (by decide)]; rfl
  · rw [if_neg (by decide), if_neg (by decide), if_neg (by decide), if_neg (by decide)]; rfl
  · rw [if_neg (by decide), if_neg (by decide), if_neg (by decide), if_pos (by decide)]; exact cM (by rw [hln]; simp [fLen])
  · rw [if_neg (by decide), if_neg (by decide), if_neg (by decide), if_pos (by decide)]; exact cM (by rw [hln]; simp [fLen])
  · rw [if_pos (by decide)]; exact cA (by rw [hln]; simp [fLen])
  · rw [if_pos (by decide)]; exact cA (by rw [hln]; simp [fLen])
  · rw [if_neg (by decide), if_neg (by decide), if_neg (by decide), if_neg (by decide)]; rfl
  · rw [if_neg (by decide), if_neg (by decide), if_neg (by decide), if_neg (by decide)]; rfl
