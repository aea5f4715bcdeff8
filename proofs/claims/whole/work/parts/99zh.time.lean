/-! Whose, kept, when: both. -/
def ofB (k : Nat) : Bool := decide (k ≤ 4 ∨ k = 13)
def kpt (k : Nat) : Bool := decide (k ≠ 13 ∧ k ≠ 14)
theorem k15 {k : Nat} (h : k < 15) : k = 0 ∨ k = 1 ∨ k = 2 ∨ k = 3 ∨ k = 4 ∨ k = 5 ∨ k = 6 ∨ k = 7 ∨ k = 8 ∨ k = 9 ∨ k = 10 ∨ k = 11 ∨ k = 12 ∨ k = 13 ∨ k = 14 := by omega
theorem h_ofB {S : hS} {k : Nat} (hk : k < 15) (h : S.2.1 804 2 = nI k) : h_Me_isOfBankAlone S = some (b2i (ofB k)) := by
  unfold h_Me_isOfBankAlone
  rw [h]
  rcases k15 hk with rfl | rfl | rfl | rfl | rfl | rfl | rfl | rfl | rfl | rfl | rfl | rfl | rfl | rfl | rfl <;> decide
theorem d_ofB {s : mS} {k : Nat} (hk : k < 15) (h : s.1 4 = nI k) : d_Mo_ofBank s = some (b2i (ofB k)) := by
  unfold d_Mo_ofBank
  rw [h]
  rcases k15 hk with rfl | rfl | rfl | rfl | rfl | rfl | rfl | rfl | rfl | rfl | rfl | rfl | rfl | rfl | rfl <;> decide
theorem h_kpt {S : hS} {k : Nat} (hk : k < 15) (h : S.2.1 804 2 = nI k) : h_Me_takesReference S = some (b2i (kpt k)) := by
  unfold h_Me_takesReference
  rw [h]
  rcases k15 hk with rfl | rfl | rfl | rfl | rfl | rfl | rfl | rfl | rfl | rfl | rfl | rfl | rfl | rfl | rfl <;> decide
theorem d_kpt {s : mS} {k : Nat} (hk : k < 15) (h : s.1 4 = nI k) : d_Mo_isKept s = some (b2i (kpt k)) := by
  unfold d_Mo_isKept
  rw [h]
  rcases k15 hk with rfl | rfl | rfl | rfl | rfl | rfl | rfl | rfl | rfl | rfl | rfl | rfl | rfl | rfl | rfl <;> decide
/-- all in the first currency -/
def foB (z : Z) (ls : List Leg) : Bool := ls.all fun l => decide (some l.a = z.fc)
theorem h_fo_loop {n : Nat} {S : hS} {z : Z} (hO : okZ n z) (h404 : S.2.1 404 10 = oI z.fc) {ls : List Leg} (hl : ls.length ≤ 4) (h812 : S.2.1 812 2 = nI ls.length) (hr : ∀ (t : Nat) (l : Leg), ls[t]? = some l → S.2.2.2.2.1 5 (3 * t + 2) = nI l.a ∧ l.a < 64) : ∀ (d fu j : Nat), ls.length - j = d → d < fu → j ≤ ls.length → hl_De_isInFirstCurrencyAlone_2 fu (nI j) S = some (b2i (foB z (ls.drop j))) := by
  have hast := hO.ast
  intro d
  induction d with
  | zero =>
    intro fu j hd hf hj
    obtain ⟨fu, rfl⟩ : ∃ f, fu = f + 1 := ⟨fu - 1, by omega⟩
    unfold hl_De_isInFirstCurrencyAlone_2
    rw [h812, if_pos (nI_le0 (by omega) (by omega) (by omega)), List.drop_of_length_le (by omega)]; rfl
  | succ d ih =>
    intro fu j hd hf hj
    obtain ⟨fu, rfl⟩ : ∃ f, fu = f + 1 := ⟨fu - 1, by omega⟩
    obtain ⟨l, hlj⟩ := get_lt (ks := ls) (j := j) (by omega)
    obtain ⟨r1, r2⟩ := hr j l hlj
    have i1 : nI j * 3 + 2 = nI (3 * j + 2) := by rw [show nI j * 3 = nI (j * 3) from nI_mul j 3, Nat.mul_comm]; exact nI_add' _ 2
    have IH := ih fu (j + 1) (by omega) (by omega) (by omega)
    unfold hl_De_isInFirstCurrencyAlone_2
    rw [h812, if_neg (nI_ngt (by omega) (by omega) (by omega)), i1, ix_N (by omega) (by omega), Option.bind_some, r1, h404, nI_add1, drop_cons hlj]
    unfold foB
    rw [List.all_cons]
    by_cases c : some l.a = z.fc
    · rw [if_pos ((oI_eq (fun b hb => by have := (hO.fc b hb).1; omega) (by omega)).mpr c), decide_eq_true c, Bool.true_and]; exact IH
    · rw [if_neg (fun q => c ((oI_eq (fun b hb => by have := (hO.fc b hb).1; omega) (by omega)).mp q)), decide_eq_false c, Bool.false_and]; rfl
theorem d_fo_loop {n : Nat} {s : mS} {z : Z} (hB : MB s z) (hO : okZ n z) {N : Nat} {M : List Nat} (hT : TXT (s.2.2.1 24) N M) (hN : N ≤ 400) {ls : List Leg} (hl : ls.length ≤ 4) (hlN : 17 + 26 * ls.length ≤ N) (hR : LR z M ls) (h16 : s.2.2.1 24 16 - 48 = nI ls.length) : ∀ (d fu j : Nat) (b : Bool), ls.length - j = d → d < fu → j ≤ ls.length → l_Mo_isTime_149 fu (b2i b) (nI j) s = some (b2i (b && foB z (ls.drop j))) := by
  have hast := hO.ast
  intro d
  induction d with
  | zero =>
    intro fu j b hd hf hj
    obtain ⟨fu, rfl⟩ : ∃ f, fu = f + 1 := ⟨fu - 1, by omega⟩
    unfold l_Mo_isTime_149
    rw [show am_ix 16 400 = some 16 from by decide, Option.bind_some, h16, if_pos (nI_le0 (by omega) (by omega) (by omega)), List.drop_of_length_le (by omega)]
    show _ = some (b2i (b && true))
    rw [Bool.and_true]
  | succ d ih =>
    intro fu j b hd hf hj
    obtain ⟨fu, rfl⟩ : ∃ f, fu = f + 1 := ⟨fu - 1, by omega⟩
    obtain ⟨l, hlj⟩ := get_lt (ks := ls) (j := j) (by omega)
    have r3 := (hR j l hlj).2.2.1
    have hla := fa_lt r3
    have i1 : 17 + 26 * nI j = nI (17 + 26 * j) := by rw [show (26 : Int32) = nI 26 from rfl, nI_mul, show (17 : Int32) = nI 17 from rfl, nI_add']
    have i3 : nI (17 + 26 * j) + 8 = nI (17 + 26 * j + 8) := nI_add' _ 8
    have d3 := d_ast hT hN hB hO.ast (fun x hx => ⟨(hO.acd x hx).1, (hO.acd x hx).2.1⟩) (17 + 26 * j + 8) (by omega)
    rw [r3] at d3
    have d3' : d_Mo_assetAt (nI (17 + 26 * j + 8)) s = some (nI l.a) := d3
    have e : foB z (l :: ls.drop (j + 1)) = (decide (some l.a = z.fc) && foB z (ls.drop (j + 1))) := by unfold foB; rw [List.all_cons]
    unfold l_Mo_isTime_149
    rw [show am_ix 16 400 = some 16 from by decide, Option.bind_some, h16, if_neg (nI_ngt (by omega) (by omega) (by omega)), i1, i3, d3', Option.bind_some, hB.fir, nI_add1, drop_cons hlj, e]
    cases b with
    | false =>
      rw [if_pos (by decide), Option.bind_some]
      have := ih fu (j + 1) false (by omega) (by omega) (by omega)
      rw [Bool.false_and] at this ⊢
      exact this
    | true =>
      rw [if_neg (by decide)]
      by_cases c : some l.a = z.fc
      · rw [if_neg (fun q => q ((oI_eq (fun b hb => by have := (hO.fc b hb).1; omega) (by omega)).mpr c)), Option.bind_some, decide_eq_true c, Bool.true_and]
        exact ih fu (j + 1) true (by omega) (by omega) (by omega)
      · rw [if_pos (fun q => c ((oI_eq (fun b hb => by have := (hO.fc b hb).1; omega) (by omega)).mp q)), Option.bind_some, decide_eq_false c, Bool.false_and, Bool.and_false]
        have := ih fu (j + 1) false (by omega) (by omega) (by omega)
        rw [Bool.false_and] at this
        exact this
/-- may it come now -/
def inT (k tick pr : Nat) (fo : Bool) : Bool :=
  if k = 3 ∨ k = 4 ∨ k = 6 ∨ k = 13 then decide (100 ≤ tick ∧ tick < 900)
  else if k = 5 then decide (100 ≤ tick ∧ tick < 900) && (if tick < 700 then true else if tick < 800 then decide (pr ≤ 4) else fo)
  else if k = 7 ∨ k = 8 then decide (tick < 900) else true
theorem inT_eq (k tick pr : Nat) (fo : Bool) : inT k tick pr fo = (if k = 3 ∨ k = 4 ∨ k = 6 ∨ k = 13 then (!decide (¬ 100 ≤ tick) && !decide (¬ tick < 900)) else if k = 5 then ((!decide (¬ 100 ≤ tick) && !decide (¬ tick < 900)) && (if tick < 700 then true else if tick < 800 then decide (pr ≤ 4) else fo)) else if k = 7 ∨ k = 8 then !decide (¬ tick < 900) else true) := by
  have e1 : decide (100 ≤ tick ∧ tick < 900) = (!decide (¬ 100 ≤ tick) && !decide (¬ tick < 900)) := by
    by_cases c1 : 100 ≤ tick <;> by_cases c2 : tick < 900 <;> simp [c1, c2]
  have e2 : decide (tick < 900) = !decide (¬ tick < 900) := by
    by_cases c2 : tick < 900 <;> simp [c2]
  unfold inT
  rw [e1, e2]
theorem h_time {S : hS} {k tick pr : Nat} {fo : Bool} (hk : k < 15) (h804 : S.2.1 804 2 = nI k) (ht : tick < 1000) (h504 : S.2.1 504 20 = nI tick) (hp : k = 5 → S.2.1 817 2 = nI pr ∧ pr < 10) (hfo : k = 5 → h_De_isInFirstCurrencyAlone S = some (b2i fo)) : h_De_isInPhase S = some (b2i (inT k tick pr fo)) := by
  have e1 : ((100 : Int32) ≤ nI tick) ↔ 100 ≤ tick := ⟨fun q => by
    by_cases c : 100 ≤ tick
    · exact c
    · exact absurd q (nI_ngt (a := 100) (by omega) (by omega) (by omega)), fun q => nI_le0 (a := 100) (by omega) (by omega) q⟩
  have lt : ∀ a, a < 1000 → (nI tick < nI a ↔ tick < a) := fun a ha => nI_lt' (by omega) (by omega)
  have e9 : (nI tick < (900 : Int32)) ↔ tick < 900 := lt 900 (by omega)
  have e8 : (nI tick < (800 : Int32)) ↔ tick < 800 := lt 800 (by omega)
  have e7 : (nI tick < (700 : Int32)) ↔ tick < 700 := lt 700 (by omega)
  have u1 : (if (100 : Int32) ≤ nI tick then (some 0) else (some (1 : Int32))) = some (b2i (decide (¬ 100 ≤ tick))) := by
    by_cases c : 100 ≤ tick
    · rw [if_pos (e1.mpr c), decide_eq_false (fun q => q c)]; rfl
    · rw [if_neg (fun q => c (e1.mp q)), decide_eq_true c]; rfl
  have u5 : (if (nI tick < (900 : Int32)) then (some 0) else (some (1 : Int32))) = some (b2i (decide (¬ tick < 900))) := by
    by_cases c : tick < 900
    · rw [if_pos (e9.mpr c), decide_eq_false (fun q => q c)]; rfl
    · rw [if_neg (fun q => c (e9.mp q)), decide_eq_true c]; rfl
  have pay : k = 5 → h_De_isPayInPhase S = some (b2i (if tick < 700 then true else if tick < 800 then decide (pr ≤ 4) else fo)) := fun h5 => by
    obtain ⟨p1, p2⟩ := hp h5
    have e4 : ((4 : Int32) < nI pr) ↔ 4 < pr := nI_lt' (a := 4) (by omega) (by omega)
    unfold h_De_isPayInPhase
    rw [h504, p1, hfo h5]
    by_cases c8 : tick < 800
    · rw [if_pos (e8.mpr c8)]
      by_cases c7 : tick < 700
      · rw [if_pos (e7.mpr c7), if_pos c7]; rfl
      · rw [if_neg (fun q => c7 (e7.mp q)), if_neg c7, if_pos c8]
        by_cases c4 : pr ≤ 4
        · rw [if_neg (fun q => by have := e4.mp q; omega), decide_eq_true c4]; rfl
        · rw [if_pos (e4.mpr (by omega)), decide_eq_false c4]; rfl
    · rw [if_neg (fun q => c8 (e8.mp q)), if_neg (by omega), if_neg c8, Option.bind_some]
      cases fo <;> decide
  unfold h_De_isInPhase
  rw [h504, u1, u5, Option.bind_some, Option.bind_some, h804]
  rw [inT_eq]
  revert pay
  generalize (if tick < 700 then true else if tick < 800 then decide (pr ≤ 4) else fo) = P
  generalize decide (¬ 100 ≤ tick) = E
  generalize decide (¬ tick < 900) = H
  intro pay
  rcases k15 hk with rfl | rfl | rfl | rfl | rfl | rfl | rfl | rfl | rfl | rfl | rfl | rfl | rfl | rfl | rfl
  · rw [if_neg (by decide), if_neg (by decide), if_neg (by decide), if_neg (by decide), if_neg (by decide), if_neg (by decide)]; rfl
  · rw [if_neg (by decide), if_neg (by decide), if_neg (by decide), if_neg (by decide), if_neg (by decide), if_neg (by decide)]; rfl
  · rw [if_neg (by decide), if_neg (by decide), if_neg (by decide), if_neg (by decide), if_neg (by decide), if_neg (by decide)]; rfl
  · rw [if_pos (by decide)]; cases E <;> cases H <;> cases P <;> decide
  · rw [if_pos (by decide)]; cases E <;> cases H <;> cases P <;> decide
  · rw [if_neg (by decide), if_pos (by decide), pay rfl]; cases E <;> cases H <;> cases P <;> decide
  · rw [if_pos (by decide)]; cases E <;> cases H <;> cases P <;> decide
  · rw [if_neg (by decide), if_neg (by decide), if_pos (by decide)]; cases E <;> cases H <;> cases P <;> decide
  · rw [if_neg (by decide), if_neg (by decide), if_pos (by decide)]; cases E <;> cases H <;> cases P <;> decide
  · rw [if_neg (by decide), if_neg (by decide), if_neg (by decide), if_neg (by decide), if_neg (by decide), if_neg (by decide)]; rfl
  · rw [if_neg (by decide), if_neg (by decide), if_neg (by decide), if_neg (by decide), if_neg (by decide), if_neg (by decide)]; rfl
  · rw [if_neg (by decide), if_neg (by decide), if_neg (by decide), if_neg (by decide), if_neg (by decide), if_neg (by decide)]; rfl
  · rw [if_neg (by decide), if_neg (by decide), if_neg (by decide), if_neg (by decide), if_neg (by decide), if_neg (by decide)]; rfl
  · rw [if_pos (by decide)]; cases E <;> cases H <;> cases P <;> decide
  · rw [if_neg (by decide), if_neg (by decide), if_neg (by decide), if_neg (by decide), if_neg (by decide), if_neg (by decide)]; rfl
