/-! The class's books: a new participant, a new asset. -/
def Z.addM (z : Z) (c : List Nat) : Z := ((z.mem ++ [c], z.1.2), z.2)
def Z.addA (z : Z) (x : Ast) : Z := ((z.1.1, z.ast ++ [x], (if z.fc = none ∧ x.mny = true then some z.ast.length else z.fc), z.1.2.2.2), z.2)
theorem addM_mem (z : Z) (c : List Nat) : (z.addM c).mem = z.mem ++ [c] := rfl
theorem addA_ast (z : Z) (x : Ast) : (z.addA x).ast = z.ast ++ [x] := rfl
theorem addA_fc (z : Z) (x : Ast) : (z.addA x).fc = if z.fc = none ∧ x.mny = true then some z.ast.length else z.fc := rfl
theorem get_snoc' {α : Type} {l : List α} {x : α} {k : Nat} {y : α} (h : (l ++ [x])[k]? = some y) : l[k]? = some y ∨ (k = l.length ∧ y = x) := by
  rw [List.getElem?_append] at h
  by_cases hk : k < l.length
  · rw [if_pos hk] at h; exact Or.inl h
  · rw [if_neg hk] at h
    have := get_lt' h
    rw [List.length_singleton] at this
    have hk0 : k - l.length = 0 := by omega
    rw [hk0] at h
    cases h
    exact Or.inr ⟨by omega, rfl⟩
theorem crd_out {z : Z} {p : Nat} (h : ∀ a, a < z.ast.length → z.pl (64 * p + a) = 0) : z.crd p = 0 := sumN_0 fun a ha => by
  unfold Z.wor
  cases z.ast[a]? with
  | none => rfl
  | some x =>
    show (if x.mny then 0 else wth (z.pl (64 * p + a)).toNat x.prc x.cut) = 0
    rw [h a ha]
    split
    · rfl
    · exact wth_00 _ _
set_option maxHeartbeats 2000000 in
theorem h_addP {S : hS} {z : Z} {g : hG} (h : HB S z g) (hX : okX z) (hpl : ∀ P, P < 16384 → z.mem.length ≤ P / 64 → z.pl P = 0) {c : List Nat} (hc : z.mem.length < 256) (h1m : 0 < z.mem.length) (hlen : S.1.length + 3 < am_M) : ∃ S' g', h_Bo_addParticipant (nI (b36 c)) S = some S' ∧ HB S' (z.addM c) g' ∧ BF S S' ∧ S'.1.length ≤ S.1.length + 3 ∧ g'.1 = g.1 ∧ g'.2.1 = g.2.1 := by
  have hs := hX.ast
  have hM : am_M = 16777216 := rfl
  have h60 : 60 ≤ S.1.length := by have := h.fix.len; have h2 : hs_fix.length = 60 := rfl; omega
  obtain ⟨n, hn⟩ : ∃ n, n = S.1.length := ⟨_, rfl⟩
  -- the cells, one after the other
  obtain ⟨S1, hS1⟩ : ∃ S1, S1 = hNew S 9 0 := ⟨_, rfl⟩
  obtain ⟨S2, hS2⟩ : ∃ S2, S2 = hpR (hNew S1 26 64) 902 n (some (n + 1)) := ⟨_, rfl⟩
  obtain ⟨S3, hS3⟩ : ∃ S3, S3 = hpR (hpI (hNew S2 13 0) 1302 (n + 2) 0) 1300 (n + 2) (some (am_M + 1)) := ⟨_, rfl⟩
  obtain ⟨S4, hS4⟩ : ∃ S4, S4 = hpI (hpI (hpR S3 903 n (some (n + 2))) 900 n (nI (b36 c))) 901 n 0 := ⟨_, rfl⟩
  obtain ⟨S5, hS5⟩ : ∃ S5, S5 = hpI (hpQ S4 11 z.mem.length (some n)) 401 10 (nI (z.mem.length + 1)) := ⟨_, rfl⟩
  have l1 : S1.1 = S.1 ++ [(9, 0)] := by rw [hS1]; rfl
  have l2 : S2.1 = S.1 ++ [(9, 0)] ++ [(26, 64)] := by rw [hS2]; show S1.1 ++ _ = _; rw [l1]
  have l3 : S3.1 = S.1 ++ [(9, 0)] ++ [(26, 64)] ++ [(13, 0)] := by rw [hS3]; show S2.1 ++ _ = _; rw [l2]
  have l5 : S5.1 = S.1 ++ [(9, 0)] ++ [(26, 64)] ++ [(13, 0)] := by rw [hS5, hS4]; exact l3
  have n1 : S1.1.length = n + 1 := by rw [l1, List.length_append, List.length_singleton, hn]
  have n2 : S2.1.length = n + 2 := by rw [l2, List.length_append, List.length_append, List.length_singleton, List.length_singleton, hn]
  have bf : BF S S5 := by
    rw [hS5, hS4, hS3, hS2, hS1]
    refine (((((((BF.tr (BF.pR (BF.tr (BF.new 9 0) (BF.new 26 64)) (Or.inr (by omega))) (BF.new 13 0)).pI (Or.inr (by omega))).pR (Or.inr (by omega))).pR (Or.inr (by omega))).pI (Or.inr (by omega))).pI (Or.inr (by omega))).pQ (Or.inl (Or.inl rfl))).pI (Or.inl (by decide))
  have oI' : ∀ k a, a < n → ¬ (k = 401 ∧ a = 10) → S5.2.1 k a = S.2.1 k a := fun k a ha hk => by
    rw [hS5, hS4, hS3, hS2, hS1]
    show up2 (up2 (up2 (up2 (nw1 (nw1 (nw1 S.2.1 S.1.length 0) (hNew S 9 0).1.length 0) (hpR (hNew (hNew S 9 0) 26 64) 902 n (some (n + 1))).1.length 0) 1302 (n + 2) 0) 900 n (nI (b36 c))) 901 n 0) 401 10 (nI (z.mem.length + 1)) k a = _
    rw [up2_ne hk, up2_na (by omega), up2_na (by omega), up2_na (by omega), nw1_ne (by rw [← hS1, ← hS2, n2]; omega), nw1_ne (by rw [← hS1, n1]; omega), nw1_ne (by omega)]
  have oL' : ∀ k a, a < n → S5.2.2.1 k a = S.2.2.1 k a := fun k a ha => by
    rw [hS5, hS4, hS3, hS2, hS1]
    show nw1 (nw1 (nw1 S.2.2.1 S.1.length 0) (hNew S 9 0).1.length 0) (hpR (hNew (hNew S 9 0) 26 64) 902 n (some (n + 1))).1.length 0 k a = _
    rw [nw1_ne (by rw [← hS1, ← hS2, n2]; omega), nw1_ne (by rw [← hS1, n1]; omega), nw1_ne (by omega)]
  have oR' : ∀ k a, a < n → S5.2.2.2.1 k a = S.2.2.2.1 k a := fun k a ha => by
    rw [hS5, hS4, hS3, hS2, hS1]
    show up2 (up2 (nw1 (up2 (nw1 (nw1 S.2.2.2.1 S.1.length none) (hNew S 9 0).1.length none) 902 n (some (n + 1))) (hpR (hNew (hNew S 9 0) 26 64) 902 n (some (n + 1))).1.length none) 1300 (n + 2) (some (am_M + 1))) 903 n (some (n + 2)) k a = _
    rw [up2_na (by omega), up2_na (by omega), nw1_ne (by rw [← hS1, ← hS2, n2]; omega), up2_na (by omega), nw1_ne (by rw [← hS1, n1]; omega), nw1_ne (by omega)]
  have oQ' : ∀ a, a < n → a ≠ 11 → S5.2.2.2.2.2.2 a = S.2.2.2.2.2.2 a := fun a ha h11 => by
    rw [hS5, hS4, hS3, hS2, hS1]
    show up2 (nw2 (nw2 (nw2 S.2.2.2.2.2.2 S.1.length none) (hNew S 9 0).1.length none) (hpR (hNew (hNew S 9 0) 26 64) 902 n (some (n + 1))).1.length none) 11 z.mem.length (some n) a = _
    rw [up2_row h11, nw2_ne (by rw [← hS1, ← hS2, n2]; omega), nw2_ne (by rw [← hS1, n1]; omega), nw2_ne (by omega)]
  have q11 : ∀ j, S5.2.2.2.2.2.2 11 j = if j = z.mem.length then some n else S.2.2.2.2.2.2 11 j := fun j => by
    rw [hS5, hS4, hS3, hS2, hS1]
    show up2 (nw2 (nw2 (nw2 S.2.2.2.2.2.2 S.1.length none) (hNew S 9 0).1.length none) (hpR (hNew (hNew S 9 0) 26 64) 902 n (some (n + 1))).1.length none) 11 z.mem.length (some n) 11 j = _
    rw [up2_at, nw2_ne (by rw [← hS1, ← hS2, n2]; omega), nw2_ne (by rw [← hS1, n1]; omega), nw2_ne (by omega)]
  have qn : ∀ j, S5.2.2.2.2.2.2 (n + 1) j = none := fun j => by
    rw [hS5, hS4, hS3, hS2, hS1]
    show up2 (nw2 (nw2 (nw2 S.2.2.2.2.2.2 S.1.length none) (hNew S 9 0).1.length none) (hpR (hNew (hNew S 9 0) 26 64) 902 n (some (n + 1))).1.length none) 11 z.mem.length (some n) (n + 1) j = _
    rw [up2_row (by omega), nw2_ne (by rw [← hS1, ← hS2, n2]; omega), ← hS1, n1, nw2_eq]
  have r902 : S5.2.2.2.1 902 n = some (n + 1) := by
    rw [hS5, hS4, hS3, hS2, hS1]
    show up2 (up2 (nw1 (up2 (nw1 (nw1 S.2.2.2.1 S.1.length none) (hNew S 9 0).1.length none) 902 n (some (n + 1))) (hpR (hNew (hNew S 9 0) 26 64) 902 n (some (n + 1))).1.length none) 1300 (n + 2) (some (am_M + 1))) 903 n (some (n + 2)) 902 n = _
    rw [up2_ne (by omega), up2_ne (by omega), nw1_ne (by rw [← hS1, ← hS2, n2]; omega), up2_eq]
  have r903 : S5.2.2.2.1 903 n = some (n + 2) := by
    rw [hS5, hS4]
    simp [hpI, hpR, hpQ, up2]
  have r1300 : S5.2.2.2.1 1300 (n + 2) = some (am_M + 1) := by
    rw [hS5, hS4, hS3]
    simp [hpI, hpR, hpQ, up2]
  have i900 : S5.2.1 900 n = nI (b36 c) := by
    rw [hS5, hS4]
    simp [hpI, hpR, hpQ, up2]
  have i901 : S5.2.1 901 n = 0 := by
    rw [hS5, hS4]
    simp [hpI, hpR, hpQ, up2]
  have i1301 : S5.2.1 1301 (n + 2) = 0 := by
    rw [hS5, hS4, hS3]
    show up2 (up2 (up2 (up2 (nw1 S2.2.1 S2.1.length 0) 1302 (n + 2) 0) 900 n (nI (b36 c))) 901 n 0) 401 10 (nI (z.mem.length + 1)) 1301 (n + 2) = _
    rw [up2_ne (by omega), up2_ne (by omega), up2_ne (by omega), up2_ne (by omega), n2, nw1_eq]
  have l904 : S5.2.2.1 904 n = 0 := by
    rw [hS5, hS4, hS3, hS2, hS1]
    show nw1 (nw1 (nw1 S.2.2.1 S.1.length 0) (hNew S 9 0).1.length 0) (hpR (hNew (hNew S 9 0) 26 64) 902 n (some (n + 1))).1.length 0 904 n = _
    rw [nw1_ne (by rw [← hS1, ← hS2, n2]; omega), nw1_ne (by rw [← hS1, n1]; omega), hn, nw1_eq]
  have i401 : S5.2.1 401 10 = nI (z.mem.length + 1) := by
    rw [hS5]
    simp [hpI, up2]
  obtain ⟨g', hg'⟩ : ∃ g' : hG, g' = (g.1, g.2.1, (fun p => if p = z.mem.length then n else g.pb p), g.2.2.2) := ⟨_, rfl⟩
  have gpb : ∀ p, g'.pb p = if p = z.mem.length then n else g.pb p := fun p => by rw [hg']; rfl
  have gad : g'.ad = g.ad := by rw [hg']; rfl
  have gab : g'.ab = g.ab := by rw [hg']; rfl
  have hsh := bf.sh
  have adn : ∀ a, a < 64 → g.ad (64 * z.mem.length + a) = none := fun a ha => by
    cases hq : g.ad (64 * z.mem.length + a) with
    | none => rfl
    | some y =>
      have := h.tab.inr _ y hq
      unfold inP at this
      omega
  have adr : ∀ t, t < 256 → g.ad (16384 + (256 * z.mem.length + t)) = none := fun t ht => by
    cases hq : g.ad (16384 + (256 * z.mem.length + t)) with
    | none => rfl
    | some y =>
      have := h.tab.inr _ y hq
      unfold inP at this
      omega
  have hcr0 : z.crd z.mem.length = 0 := crd_out fun a ha => hpl _ (by omega) (by omega)
  refine ⟨S5, g', ?_, ⟨h.fix.tr hsh, ?_, ?_, fun p c' hp => ?_, fun p r hp hr e => ?_, fun p r e hp hr e1 e2 hne => ?_, ?_, fun a x hx => ?_, ?_, ?_, ?_, ?_⟩, bf, ?_, by rw [hg'], by rw [hg']⟩
  · unfold h_Bo_addParticipant
    have al : hs_al S = some n := by rw [hn]; exact if_pos (by omega)
    rw [h.mem, if_neg (show ¬ (256 : Int32) ≤ nI z.mem.length from nI_ngt (a := 256) (by omega) (by omega) hc), al, Option.bind_some, ← hS1]
    have al1 : hs_al S1 = some (n + 1) := by unfold hs_al; rw [n1, if_pos (by omega)]
    have al2 : hs_al S2 = some (n + 2) := by unfold hs_al; rw [n2, if_pos (by omega)]
    unfold h_Pa_init
    rw [al1, Option.bind_some, ← hS2, al2, Option.bind_some]
    unfold h_AL13_init h_AbstractList_init h_AbstractCollection_init
    rw [Option.bind_some, Option.bind_some, Option.bind_some, ← hS3, if_pos (Or.inl rfl), Option.bind_some, ← hS4, ix_N (by omega) (by omega), Option.bind_some]
    have e401 : S4.2.1 401 10 = nI z.mem.length := by
      rw [← h.mem, hS4, hS3, hS2, hS1]
      show up2 (up2 (up2 (nw1 (nw1 (nw1 S.2.1 S.1.length 0) (hNew S 9 0).1.length 0) (hpR (hNew (hNew S 9 0) 26 64) 902 n (some (n + 1))).1.length 0) 1302 (n + 2) 0) 900 n (nI (b36 c))) 901 n 0 401 10 = _
      rw [up2_ne (by omega), up2_ne (by omega), up2_ne (by omega), nw1_ne (by rw [← hS1, ← hS2, n2]; omega), nw1_ne (by rw [← hS1, n1]; omega), nw1_ne (by omega)]
    rw [e401, nI_add1, hS5]
  · rw [gad]
    refine ⟨fun P y hy => ?_, fun P y hy => ?_, h.tab.inj, h.tab.acc0, h.tab.rom0⟩
    · have hp := h.tab.pos P y hy
      have hyl := hp.len
      exact ⟨hsh.get hp.k, (oL' _ _ (by omega)).trans hp.lev, (oI' _ _ (by omega) (by omega)).trans hp.fld, fun w => (oL' _ _ (by omega)).trans (hp.flr w), fun w => ⟨(oL' _ _ (by omega)).trans (hp.day w).1, (oL' _ _ (by omega)).trans (hp.day w).2.1, (oL' _ _ (by omega)).trans (hp.day w).2.2.1, (oI' _ _ (by omega) (by omega)).trans (hp.day w).2.2.2⟩, fun w => (oI' _ _ (by omega) (by omega)).trans (hp.tow w)⟩
    · have := h.tab.inr P y hy
      unfold inP at this ⊢
      rw [addM_mem, List.length_append, List.length_singleton]
      show (P < 16384 ∧ _ ∧ P % 64 < z.ast.length) ∨ _
      omega
  · rw [i401, addM_mem, List.length_append, List.length_singleton]
  · rw [addM_mem] at hp
    rcases get_snoc' hp with hq | ⟨hq1, hq2⟩
    · have hMp := h.par p c' hq
      have hpl' := get_lt' hq
      have eb : g'.pb p = g.pb p := by rw [gpb, if_neg (by omega)]
      have x0 := len_get hMp.k
      have x1 := len_get hMp.ack
      have x2 := len_get hMp.rlk
      have na : g.pb p + 1 ≠ 11 := kd_ne hMp.ack (fix_at h.fix (b := 11) (p := (24, 256)) rfl) (by decide)
      refine ⟨?_, ?_, ?_, ?_, ?_, ?_, ?_, ?_, ?_, ?_, ?_⟩ <;> rw [eb]
      · rw [q11, if_neg (by omega)]; exact hMp.at
      · exact hsh.get hMp.k
      · exact (oI' _ _ (by omega) (by omega)).trans hMp.cod
      · exact (oI' _ _ (by omega) (by omega)).trans hMp.bnk
      · exact (oL' _ _ (by omega)).trans hMp.crd
      · exact (oR' _ _ (by omega)).trans hMp.acr
      · exact hsh.get hMp.ack
      · intro a ha; rw [oQ' _ (by omega) na, gad]; exact hMp.acc a ha
      · exact (oR' _ _ (by omega)).trans hMp.rlr
      · exact hsh.get hMp.rlk
      · rw [gad]
        exact hMp.rom.f hsh (oR' _ _ (by omega)) (oI' _ _ (by omega) (by omega)) (fun e _ he => oQ' e (by have := he.lt; omega) (fun w => by
          rw [w] at he
          exact absurd (he.un (fix_at h.fix (b := 11) (p := (24, 256)) rfl)) (by decide))) (fun _ _ => rfl)
    · subst hq2
      have eb : g'.pb p = n := by rw [gpb, if_pos hq1]
      refine ⟨?_, ?_, ?_, ?_, ?_, ?_, ?_, ?_, ?_, ?_, ?_⟩ <;> rw [eb]
      · rw [q11, if_pos hq1]
      · rw [l5, List.append_assoc, List.append_assoc, hn, List.getElem?_append_right (Nat.le_refl _), Nat.sub_self]; rfl
      · exact i900
      · have : p ≠ 0 := by omega
        rw [decide_eq_false this, i901]; rfl
      · rw [l904, hq1]
        show 0 = lI ((z.addM c').crd z.mem.length : Nat)
        rw [show (z.addM c').crd z.mem.length = z.crd z.mem.length from rfl, hcr0]; rfl
      · exact r902
      · rw [l5, List.append_assoc, List.append_assoc, hn, List.getElem?_append_right (by omega), show S.1.length + 1 - S.1.length = 1 by omega]; rfl
      · intro a ha; rw [qn, gad, hq1]; exact (adn a ha).symm
      · exact r903
      · rw [l5, List.append_assoc, List.append_assoc, hn, List.getElem?_append_right (by omega), show S.1.length + 2 - S.1.length = 2 by omega]; rfl
      · refine ⟨am_M + 1, [], r1300, Or.inl rfl, by rw [hlq_0]; omega, i1301, by rw [hlq_0]; exact Nat.le_refl _, List.nodup_nil, fun j t hj => (by cases hj), fun t ht _ => ?_⟩
        rw [gad, hq1]; exact adr t ht
  · rw [addM_mem, List.length_append, List.length_singleton] at hp hr
    rw [gpb, gpb] at e
    by_cases g1 : p = z.mem.length <;> by_cases g2 : r = z.mem.length
    · omega
    · rw [if_pos g1, if_neg g2] at e
      obtain ⟨_, _, hMr⟩ := h.p (p := r) (by omega)
      have := len_get hMr.k; omega
    · rw [if_neg g1, if_pos g2] at e
      obtain ⟨_, _, hMr⟩ := h.p (p := p) (by omega)
      have := len_get hMr.k; omega
    · rw [if_neg g1, if_neg g2] at e
      exact h.pin p r (by omega) (by omega) e
  · rw [addM_mem, List.length_append, List.length_singleton] at hp hr
    have key : ∀ s, s < z.mem.length + 1 → S5.2.2.2.1 1300 (g'.pb s + 2) = some e → s < z.mem.length ∧ S.2.2.2.1 1300 (g.pb s + 2) = some e := fun s hs' hse => by
      by_cases g1 : s = z.mem.length
      · rw [gpb, if_pos g1, r1300] at hse
        cases hse; exact absurd rfl hne
      · obtain ⟨_, _, hMr⟩ := h.p (p := s) (by omega)
        have := len_get hMr.rlk
        rw [gpb, if_neg g1, oR' _ _ (by omega)] at hse
        exact ⟨by omega, hse⟩
    obtain ⟨a1, a2⟩ := key p hp e1
    obtain ⟨b1, b2⟩ := key r hr e2
    exact h.rin p r e a1 b1 a2 b2 hne
  · exact (oI' _ _ (by omega) (by omega)).trans h.asn
  · have hA := h.ast a x hx
    have x0 := len_get hA.k
    refine ⟨?_, ?_, ?_, ?_, ?_, ?_⟩ <;> rw [gab]
    · rw [oQ' 12 (by omega) (by decide)]; exact hA.at
    · exact hsh.get hA.k
    · exact (oI' _ _ (by omega) (by omega)).trans hA.cod
    · exact (oI' _ _ (by omega) (by omega)).trans hA.sec
    · exact (oL' _ _ (by omega)).trans hA.prc
    · exact (oI' _ _ (by omega) (by omega)).trans hA.cut
  · rw [gab]; exact h.ain
  · exact (oI' _ _ (by omega) (by omega)).trans h.fir
  · exact (oI' _ _ (by omega) (by omega)).trans h.lims
  · rw [oL' _ _ (by omega), h.all]
    show lI (z.all : Nat) = lI ((sumN (z.addM c).crd (z.mem ++ [c]).length : Nat) : Int)
    rw [List.length_append, List.length_singleton]
    show lI (z.all : Nat) = lI ((sumN z.crd z.mem.length + z.crd z.mem.length : Nat) : Int)
    rw [hcr0]; rfl
  · rw [l5]
    simp only [List.length_append, List.length_singleton]
    omega
theorem addA_crd {z : Z} {x : Ast} {p : Nat} (h : z.pl (64 * p + z.ast.length) = 0) : (z.addA x).crd p = z.crd p := by
  unfold Z.crd
  rw [addA_ast, List.length_append, List.length_singleton]
  show sumN ((z.addA x).wor p) z.ast.length + (z.addA x).wor p z.ast.length = _
  have e1 : (z.addA x).wor p z.ast.length = 0 := by
    have hx : (z.addA x).ast[z.ast.length]? = some x := by rw [addA_ast, List.getElem?_append_right (Nat.le_refl _), Nat.sub_self]; rfl
    rw [wor_some hx]
    show (if x.mny then 0 else wth (z.pl (64 * p + z.ast.length)).toNat x.prc x.cut) = 0
    rw [h]
    split
    · rfl
    · exact wth_00 _ _
  rw [e1, Nat.add_zero]
  refine sumN_cong fun a ha => ?_
  obtain ⟨y, hy⟩ := get_lt (ks := z.ast) (j := a) ha
  rw [wor_some hy, wor_some (z := z.addA x) (x := y) (by rw [addA_ast, List.getElem?_append_left ha]; exact hy)]
  rfl
theorem addA_mny {z : Z} {x : Ast} {a : Nat} (ha : a < z.ast.length) : (z.addA x).mny a = z.mny a := by
  obtain ⟨y, hy⟩ := get_lt (ks := z.ast) (j := a) ha
  rw [mny_some hy, mny_some (z := z.addA x) (x := y) (by rw [addA_ast, List.getElem?_append_left ha]; exact hy)]
theorem addA_fc_iff {z : Z} {x : Ast} {a : Nat} (hf : ∀ a, z.fc = some a → a < z.ast.length) (ha : a < z.ast.length) : some a = (z.addA x).fc ↔ some a = z.fc := by
  rw [addA_fc]
  by_cases h : z.fc = none ∧ x.mny = true
  · rw [if_pos h, h.1]
    exact ⟨fun c => by cases c; omega, fun c => by cases c⟩
  · rw [if_neg h]
set_option maxHeartbeats 1000000 in
theorem h_addA {S : hS} {z : Z} {g : hG} (h : HB S z g) (hX : okX z) (hpl : ∀ P, P < 16384 → z.ast.length ≤ P % 64 → z.pl P = 0) {x : Ast} (hc : z.ast.length < 64) (hlen : S.1.length + 1 < am_M) {S0 : hS} (hS0 : h_As_init S.1.length (nI (b36 x.cd)) (b2i (!x.mny)) (lI x.prc) (nI x.cut) (hNew S 3 0) = some S0) : ∃ S' g', h_Bo_addAsset S.1.length S0 = some S' ∧ HB S' (z.addA x) g' ∧ BF S S' ∧ S'.1.length ≤ S.1.length + 1 ∧ g'.1 = g.1 ∧ g'.2.1 = g.2.1 := by
  have hm := hX.mem
  have h60 : 60 ≤ S.1.length := by have := h.fix.len; have h2 : hs_fix.length = 60 := rfl; omega
  obtain ⟨n, hn⟩ : ∃ n, n = S.1.length := ⟨_, rfl⟩
  rw [← hn] at hS0 ⊢
  have e0 : S0 = hpI (hpL (hpI (hpI (hNew S 3 0) 300 n (nI (b36 x.cd))) 301 n (b2i (!x.mny))) 302 n (lI x.prc)) 303 n (nI x.cut) := by
    unfold h_As_init at hS0
    rw [if_pos (by cases x.mny <;> decide)] at hS0
    exact (Option.some.inj hS0).symm
  obtain ⟨f, hf⟩ : ∃ f : Int32, f = oI (z.addA x).fc := ⟨_, rfl⟩
  obtain ⟨S5, hS5⟩ : ∃ S5, S5 = hpI (hpI (hpQ S0 12 z.ast.length (some n)) 404 10 f) 403 10 (nI (z.ast.length + 1)) := ⟨_, rfl⟩
  have s0I : ∀ k a, a < n → S0.2.1 k a = S.2.1 k a := fun k a ha => by
    rw [e0]
    show up2 (up2 (up2 (nw1 S.2.1 S.1.length 0) 300 n (nI (b36 x.cd))) 301 n (b2i (!x.mny))) 303 n (nI x.cut) k a = _
    rw [up2_na (by omega), up2_na (by omega), up2_na (by omega), nw1_ne (by omega)]
  have s0L : ∀ k a, a < n → S0.2.2.1 k a = S.2.2.1 k a := fun k a ha => by
    rw [e0]
    show up2 (nw1 S.2.2.1 S.1.length 0) 302 n (lI x.prc) k a = _
    rw [up2_na (by omega), nw1_ne (by omega)]
  have s0R : ∀ k a, a < n → S0.2.2.2.1 k a = S.2.2.2.1 k a := fun k a ha => by rw [e0]; exact nw1_ne (f := S.2.2.2.1) (by omega)
  have s0Q : ∀ a, a < n → S0.2.2.2.2.2.2 a = S.2.2.2.2.2.2 a := fun a ha => by rw [e0]; exact nw2_ne (f := S.2.2.2.2.2.2) (by omega)
  have s01 : S0.1 = S.1 ++ [(3, 0)] := by rw [e0]; rfl
  have oI' : ∀ k a, a < n → ¬ ((k = 403 ∨ k = 404) ∧ a = 10) → S5.2.1 k a = S.2.1 k a := fun k a ha hk => by
    rw [hS5]
    show up2 (up2 S0.2.1 404 10 f) 403 10 (nI (z.ast.length + 1)) k a = _
    rw [up2_ne (fun w => hk ⟨Or.inl w.1, w.2⟩), up2_ne (fun w => hk ⟨Or.inr w.1, w.2⟩)]; exact s0I k a ha
  have oL' : ∀ k a, a < n → S5.2.2.1 k a = S.2.2.1 k a := fun k a ha => by rw [hS5]; exact s0L k a ha
  have oR' : ∀ k a, a < n → S5.2.2.2.1 k a = S.2.2.2.1 k a := fun k a ha => by rw [hS5]; exact s0R k a ha
  have oQ' : ∀ a, a < n → a ≠ 12 → S5.2.2.2.2.2.2 a = S.2.2.2.2.2.2 a := fun a ha h12 => by
    rw [hS5]
    show up2 S0.2.2.2.2.2.2 12 z.ast.length (some n) a = _
    rw [up2_row h12]; exact s0Q a ha
  have q12 : ∀ j, S5.2.2.2.2.2.2 12 j = if j = z.ast.length then some n else S.2.2.2.2.2.2 12 j := fun j => by
    rw [hS5]
    show up2 S0.2.2.2.2.2.2 12 z.ast.length (some n) 12 j = _
    rw [up2_at, s0Q 12 (by omega)]
  have l5 : S5.1 = S.1 ++ [(3, 0)] := by rw [hS5]; exact s01
  have bf : BF S S5 := by
    rw [hS5, e0]
    exact (((((((BF.new 3 0).pI (Or.inr (by omega))).pI (Or.inr (by omega))).pL (Or.inr (by omega))).pI (Or.inr (by omega))).pQ (Or.inl (Or.inr (Or.inl rfl)))).pI (Or.inl (by decide))).pI (Or.inl (by decide))
  have hsh := bf.sh
  obtain ⟨g', hg'⟩ : ∃ g' : hG, g' = (g.1, g.2.1, g.2.2.1, (fun a => if a = z.ast.length then n else g.ab a)) := ⟨_, rfl⟩
  have gab : ∀ p, g'.ab p = if p = z.ast.length then n else g.ab p := fun p => by rw [hg']; rfl
  have gad : g'.ad = g.ad := by rw [hg']; rfl
  have gpb : g'.pb = g.pb := by rw [hg']; rfl
  have hcr : ∀ p, p < 256 → (z.addA x).crd p = z.crd p := fun p hp => addA_crd (hpl _ (by omega) (by omega))
  have xI : ∀ k, k ≠ 403 → k ≠ 404 → S5.2.1 k n = S0.2.1 k n := fun k k1 k2 => by
    rw [hS5]
    show up2 (up2 S0.2.1 404 10 f) 403 10 (nI (z.ast.length + 1)) k n = _
    rw [up2_ne (fun w => k1 w.1), up2_ne (fun w => k2 w.1)]
  have hff : ∀ a, z.fc = some a → a < 2147483648 := fun a ha => by have := hX.fc a ha; omega
  refine ⟨S5, g', ?_, ⟨h.fix.tr hsh, ?_, ?_, fun p c' hp => ?_, ?_, fun p r e hp hr e1 e2 hne => ?_, ?_, fun a y hy => ?_, fun a b ha hb e => ?_, ?_, ?_, ?_⟩, bf, ?_, by rw [hg'], by rw [hg']⟩
  · have a403 : S0.2.1 403 10 = nI z.ast.length := (s0I _ _ (by omega)).trans h.asn
    have a404 : S0.2.1 404 10 = oI z.fc := (s0I _ _ (by omega)).trans h.fir
    have a301 : S0.2.1 301 n = b2i (!x.mny) := by rw [e0]; simp [hpI, hpL, up2]
    have hid : ∀ (U : hS) (v : Int32), U.2.1 404 10 = v → hpI U 404 10 v = U := fun U v hv => by
      unfold hpI
      have : up2 U.2.1 404 10 v = U.2.1 := by
        funext k a
        by_cases w : k = 404 ∧ a = 10
        · rw [w.1, w.2, up2_eq, hv]
        · rw [up2_ne w]
      rw [this]
    have c404 : ∀ v : Int32, (hpI (hpQ S0 12 z.ast.length (some n)) 404 10 v).2.1 403 10 = nI z.ast.length := fun v => by
      rw [← a403]; simp [hpI, hpQ, up2]
    unfold h_Bo_addAsset
    rw [a403, if_pos (show nI z.ast.length < 64 from (nI_lt' (a := z.ast.length) (b := 64) (by omega) (by omega)).mpr hc), ix_N (by omega) (by omega), Option.bind_some, a404, a301]
    by_cases hn1 : z.fc = none
    · rw [hn1, if_neg (show ¬ ¬ oI none = -1 from fun w => w rfl)]
      cases hmy : x.mny with
      | true =>
        have ef : f = nI z.ast.length := by rw [hf, addA_fc, if_pos ⟨hn1, hmy⟩]; rfl
        rw [if_neg (by decide), Option.bind_some, ← ef, c404, nI_add1, hS5]
      | false =>
        have ef : f = -1 := by rw [hf, addA_fc, if_neg (fun w => by rw [hmy] at w; cases w.2), hn1]; rfl
        have : hpQ S0 12 z.ast.length (some n) = hpI (hpQ S0 12 z.ast.length (some n)) 404 10 f := (hid _ f (by rw [ef]; show S0.2.1 404 10 = _; rw [a404, hn1]; rfl)).symm
        rw [if_pos (by decide), Option.bind_some, this, c404, nI_add1, hS5]
    · have ef : f = oI z.fc := by rw [hf, addA_fc, if_neg (fun w => hn1 w.1)]
      have hne : ¬ oI z.fc = -1 := by
        cases hz : z.fc with
        | none => exact absurd hz hn1
        | some a => exact nI_ne1 (hff a hz)
      have : hpQ S0 12 z.ast.length (some n) = hpI (hpQ S0 12 z.ast.length (some n)) 404 10 f := (hid _ f (by rw [ef]; exact a404)).symm
      rw [if_pos hne, Option.bind_some, this, c404, nI_add1, hS5]
  · rw [gad]
    refine ⟨fun P y hy => ?_, fun P y hy => ?_, h.tab.inj, h.tab.acc0, h.tab.rom0⟩
    · have hp := h.tab.pos P y hy
      have hyl := hp.len
      have hin := h.tab.inr P y hy
      unfold inP at hin
      refine ⟨hsh.get hp.k, (oL' _ _ (by omega)).trans hp.lev, (oI' _ _ (by omega) (by omega)).trans hp.fld, fun w => ?_, fun w => ⟨(oL' _ _ (by omega)).trans (hp.day w).1, (oL' _ _ (by omega)).trans (hp.day w).2.1, (oL' _ _ (by omega)).trans (hp.day w).2.2.1, (oI' _ _ (by omega) (by omega)).trans (hp.day w).2.2.2⟩, fun w => (oI' _ _ (by omega) (by omega)).trans (hp.tow w)⟩
      have efl : (z.addA x).flr P = z.flr P := by
        by_cases hPl : P < 16384
        · rw [flr_a (z := z) hPl, flr_a (z := z.addA x) hPl, addA_mny (by omega), hcr _ (by omega)]
          by_cases hff' : some (P % 64) = z.fc
          · rw [if_pos hff', if_pos ((addA_fc_iff hX.fc (by omega)).mpr hff')]
          · rw [if_neg hff', if_neg (fun w => hff' ((addA_fc_iff hX.fc (by omega)).mp w))]; rfl
        · unfold Z.flr
          rw [if_neg hPl, if_neg hPl]; rfl
      rw [efl]; exact (oL' _ _ (by omega)).trans (hp.flr w)
    · have := h.tab.inr P y hy
      unfold inP at this ⊢
      rw [addA_ast, List.length_append, List.length_singleton]
      show (P < 16384 ∧ P / 64 < z.mem.length ∧ P % 64 < z.ast.length + 1) ∨ (16384 ≤ P ∧ P < 81920 ∧ (P - 16384) / 256 < z.mem.length ∧ (P - 16384) % 256 < z.mem.length)
      omega
  · exact (oI' _ _ (by omega) (by omega)).trans h.mem
  · have hMp := h.par p c' hp
    have x0 := len_get hMp.k
    have x1 := len_get hMp.ack
    have x2 := len_get hMp.rlk
    have hp' := get_lt' hp
    have na : g.pb p + 1 ≠ 12 := kd_ne hMp.ack (fix_at h.fix (b := 12) (p := (25, 64)) rfl) (by decide)
    have hp2 : p < z.mem.length := hp'
    refine ⟨?_, ?_, ?_, ?_, ?_, ?_, ?_, ?_, ?_, ?_, ?_⟩ <;> rw [gpb]
    · rw [oQ' 11 (by omega) (by decide)]; exact hMp.at
    · exact hsh.get hMp.k
    · exact (oI' _ _ (by omega) (by omega)).trans hMp.cod
    · exact (oI' _ _ (by omega) (by omega)).trans hMp.bnk
    · rw [hcr p (by omega)]; exact (oL' _ _ (by omega)).trans hMp.crd
    · exact (oR' _ _ (by omega)).trans hMp.acr
    · exact hsh.get hMp.ack
    · intro a ha; rw [oQ' _ (by omega) na, gad]; exact hMp.acc a ha
    · exact (oR' _ _ (by omega)).trans hMp.rlr
    · exact hsh.get hMp.rlk
    · rw [gad]
      exact hMp.rom.f hsh (oR' _ _ (by omega)) (oI' _ _ (by omega) (by omega)) (fun e _ he => oQ' e (by have := he.lt; omega) (fun w => by
        rw [w] at he
        exact absurd (he.un (fix_at h.fix (b := 12) (p := (25, 64)) rfl)) (by decide))) (fun _ _ => rfl)
  · rw [gpb]; exact h.pin
  · rw [gpb] at e1 e2
    have hp' : p < z.mem.length := hp
    have hr' : r < z.mem.length := hr
    obtain ⟨_, _, hM1⟩ := h.p hp'
    obtain ⟨_, _, hM2⟩ := h.p hr'
    have y1 := len_get hM1.rlk
    have y2 := len_get hM2.rlk
    rw [oR' _ _ (by omega)] at e1 e2
    exact h.rin p r e hp' hr' e1 e2 hne
  · rw [addA_ast, List.length_append, List.length_singleton, hS5]
    simp [hpI, up2]
  · rw [addA_ast] at hy
    rcases get_snoc' hy with hq | ⟨hq1, hq2⟩
    · have hA := h.ast a y hq
      have x0 := len_get hA.k
      have ha' := get_lt' hq
      have eb : g'.ab a = g.ab a := by rw [gab, if_neg (by omega)]
      refine ⟨?_, ?_, ?_, ?_, ?_, ?_⟩ <;> rw [eb]
      · rw [q12, if_neg (by omega)]; exact hA.at
      · exact hsh.get hA.k
      · exact (oI' _ _ (by omega) (by omega)).trans hA.cod
      · exact (oI' _ _ (by omega) (by omega)).trans hA.sec
      · exact (oL' _ _ (by omega)).trans hA.prc
      · exact (oI' _ _ (by omega) (by omega)).trans hA.cut
    · subst hq2
      have eb : g'.ab a = n := by rw [gab, if_pos hq1]
      refine ⟨?_, ?_, ?_, ?_, ?_, ?_⟩ <;> rw [eb]
      · rw [q12, if_pos hq1]
      · rw [l5, hn]; exact get_snoc _ _
      · rw [xI 300 (by decide) (by decide), e0]; simp [hpI, hpL, up2]
      · rw [xI 301 (by decide) (by decide), e0]; simp [hpI, hpL, up2]
      · rw [hS5]
        show S0.2.2.1 302 n = _
        rw [e0]; simp [hpI, hpL, up2]
      · rw [xI 303 (by decide) (by decide), e0]; simp [hpI, hpL, up2]
  · rw [addA_ast, List.length_append, List.length_singleton] at ha hb
    rw [gab, gab] at e
    by_cases g1 : a = z.ast.length <;> by_cases g2 : b = z.ast.length
    · omega
    · rw [if_pos g1, if_neg g2] at e
      obtain ⟨_, _, hMr⟩ := h.a (a := b) (by omega)
      have := len_get hMr.k; omega
    · rw [if_neg g1, if_pos g2] at e
      obtain ⟨_, _, hMr⟩ := h.a (a := a) (by omega)
      have := len_get hMr.k; omega
    · rw [if_neg g1, if_neg g2] at e
      exact h.ain a b (by omega) (by omega) e
  · rw [hS5, ← hf]; simp [hpI, up2]
  · exact (oI' _ _ (by omega) (by omega)).trans h.lims
  · rw [oL' _ _ (by omega), h.all]
    have : (z.addA x).all = z.all := sumN_cong fun p hp => hcr p (by have : p < z.mem.length := hp; omega)
    rw [this]
  · rw [l5]
    simp only [List.length_append, List.length_singleton]
    omega
