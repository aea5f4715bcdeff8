/-! The class keeps a text, and forgets all. -/
def KF (S S' : hS) : Prop := (∀ k a, a < S.1.length → ¬ ((k = 1401 ∨ k = 1402) ∧ a = 21) → S'.2.1 k a = S.2.1 k a) ∧ (∀ k a, a < S.1.length → S'.2.2.1 k a = S.2.2.1 k a) ∧ (∀ k a, a < S.1.length → ¬ (k = 1400 ∧ a = 21) → S'.2.2.2.1 k a = S.2.2.2.1 k a) ∧ (∀ a, a < S.1.length → S'.2.2.2.2.1 a = S.2.2.2.2.1 a) ∧ (∀ a, a < S.1.length → S'.2.2.2.2.2.1 a = S.2.2.2.2.2.1 a)
theorem KF.i {S S' : hS} (h : KF S S') : ∀ k a, a < S.1.length → ¬ ((k = 1401 ∨ k = 1402) ∧ a = 21) → S'.2.1 k a = S.2.1 k a := h.1
theorem KF.l {S S' : hS} (h : KF S S') : ∀ k a, a < S.1.length → S'.2.2.1 k a = S.2.2.1 k a := h.2.1
theorem KF.r {S S' : hS} (h : KF S S') : ∀ k a, a < S.1.length → ¬ (k = 1400 ∧ a = 21) → S'.2.2.2.1 k a = S.2.2.2.1 k a := h.2.2.1
theorem KF.a {S S' : hS} (h : KF S S') : ∀ a, a < S.1.length → S'.2.2.2.2.1 a = S.2.2.2.2.1 a := h.2.2.2.1
theorem KF.b {S S' : hS} (h : KF S S') : ∀ a, a < S.1.length → S'.2.2.2.2.2.1 a = S.2.2.2.2.2.1 a := h.2.2.2.2
set_option maxHeartbeats 1000000 in
theorem h_keep {S : hS} {ts : List Txt} (hf : hE hs_fix S.1) (h : HTx S ts) (hlen : S.1.length + 3 < am_M) (hts : ts.length ≤ 767) {M : List Nat} (hT : TXT (S.2.2.2.2.1 1) M.length M) (hm : M.length ≤ 400) (e801 : S.2.1 801 2 = nI M.length) {w : Nat} {nm : List Nat} (e813 : S.2.1 813 2 = nI w) (e806 : S.2.2.1 806 2 = lI (b36 nm : Nat)) : ∃ S', ((hs_al S).bind fun a113 => ((h_Se_init a113 (hNew S 12 0)).bind fun q122 => ((h_AL14_add2 a113 q122).bind fun q133 => (some q133.2)))) = some S' ∧ HTx S' (ts ++ [mkTxt w nm (byt M)]) ∧ GW S S' ∧ KF S S' ∧ S'.1.length ≤ S.1.length + 3 := by
  have h60 : 59 < S.1.length := fix_lt hf (by omega)
  have hMM : am_M = 16777216 := rfl
  obtain ⟨U, u0, u1, u2, ui, ul, ur, ua, ub, uq⟩ := h_sinit hf (by omega) hT hm e801 e813 e806
  have uE : hE S.1 U.1 := ⟨_, u1⟩
  have ulen : U.1.length = S.1.length + 2 := by rw [u1, List.length_append]; rfl
  have hU : HTx U ts := h.fr uE (by omega) (ur _ _ (by omega)) (ui _ _ (by omega)) (fun x hx => ⟨ui _ _ (len_get hx), ul _ _ (len_get hx), ur _ _ (len_get hx)⟩) (fun b m _ hb => ua b (len_get hb)) (fun b _ hb _ => uq b hb.lt)
  obtain ⟨e, a1, a2, a3, a4, a5, a6⟩ := hU
  obtain ⟨S', e', s1, la, s3, s4⟩ := h_add14 (S := U) (y := S.1.length) (by omega) a1 (a2.imp id (fun c => ⟨c.2.1, c.2.2.1⟩)) a3 a4 a5 hts (by omega)
  have al : hs_al S = some S.1.length := by unfold hs_al; rw [if_pos (by omega)]
  have sE : hE U.1 S'.1 := by
    rcases la.ch with ⟨_, _, c⟩ | ⟨_, N, c⟩
    · rw [c]; exact hE.rf
    · exact ⟨_, c⟩
  have f1 : ∀ x t, HTx1 U x t → HTx1 S' x t := fun x t c => by
    have hx := len_get c.1
    exact c.fr sE (la.oi _ _ hx (fun q => by have := q.1; omega)) (la.ol _ _ hx) (la.or _ _ hx (fun q => by have := q.1; omega)) (fun b m _ hb => la.oa b (len_get hb))
  refine ⟨S', ?_, ⟨e', la.re, Or.inr ⟨?_, la.kk, ?_, fun b hb => ?_⟩, s3, ?_, ?_, fun j t ht => ?_⟩, ⟨uE.tr sE, fun k a hk ha => ?_, fun k a _ ha => ?_, fun k a hk ha => ?_, fun a _ ha => ?_, fun a _ ha => ?_, fun a hk ha => ?_⟩, ⟨fun k a ha hk => ?_, fun k a ha => ?_, fun k a ha hk => ?_, fun a ha => ?_, fun a ha => ?_⟩, by omega⟩
  · rw [al, Option.bind_some, u0, Option.bind_some, s1]; rfl
  · rcases la.ch with ⟨c1, c2, _⟩ | ⟨c1, _⟩
    · rw [c1]; exact (a2.resolve_left c2).1
    · omega
  · have := la.rm; omega
  · rcases la.ch with ⟨c1, c2, c3⟩ | ⟨c1, _⟩
    · rw [c3]; exact (a2.resolve_left c2).2.2.2 b (by omega)
    · have : b = S.1.length + 1 := by omega
      rw [sE.back (by omega), this, u1, List.getElem?_append_right (by omega), show S.1.length + 1 - S.1.length = 1 by omega]
      exact fun q => by cases q
  · rw [List.length_append]; exact la.sz
  · rw [List.length_append]; exact la.rm
  · by_cases hj : j < ts.length
    · rw [List.getElem?_append_left hj] at ht
      obtain ⟨x, x1, x2⟩ := a6 j t ht
      exact ⟨x, by rw [la.row j hj]; exact x1, f1 x t x2⟩
    · have hj2 : j = ts.length := by
        have := get_lt' ht
        rw [List.length_append, List.length_singleton] at this
        omega
      rw [hj2, List.getElem?_append_right (Nat.le_refl _), Nat.sub_self] at ht
      cases ht
      exact ⟨S.1.length, by rw [hj2]; exact la.top, f1 _ _ u2⟩
  · rw [la.oi k a (by omega) (fun q => hk (by rcases q.1 with c | c <;> rw [c] <;> decide))]; exact ui k a ha
  · rw [la.ol k a (by omega)]; exact ul k a ha
  · rw [la.or k a (by omega) (fun q => hk (by rw [q.1]; decide))]; exact ur k a ha
  · rw [la.oa a (by omega)]; exact ua a ha
  · rw [la.ob a (by omega)]; exact ub a ha
  · rw [la.oq a (by omega) (fun q => ?_)]
    · exact uq a ha
    · rcases a2 with c | ⟨_, ⟨m, c⟩, _⟩
      · omega
      · rw [← q, uE.back ha] at c
        exact hk ⟨m, c⟩
  · rw [la.oi k a (by omega) hk]; exact ui k a ha
  · rw [la.ol k a (by omega)]; exact ul k a ha
  · rw [la.or k a (by omega) hk]; exact ur k a ha
  · rw [la.oa a (by omega)]; exact ua a ha
  · rw [la.ob a (by omega)]; exact ub a ha
theorem h_clear_loop {e n : Nat} {sh : List (Nat × Nat)} (hn : n ≤ hlq sh e) (hq : hlq sh e ≤ 1200) : ∀ (d fu j : Nat) (T : hS), n - j = d → d < fu → j ≤ n → T.1 = sh → ∃ T', hl_AL14_clear_27 fu (some e) (nI n) (nI j) T = some T' ∧ hX [] [] [] [] [] [e] T T' := by
  intro d
  induction d with
  | zero =>
    intro fu j T hd hf hj hT
    obtain ⟨fu, rfl⟩ : ∃ f, fu = f + 1 := ⟨fu - 1, by omega⟩
    unfold hl_AL14_clear_27
    exact ⟨T, by rw [if_pos (nI_le0 (by omega) (by omega) (by omega))], hX.rf⟩
  | succ d ih =>
    intro fu j T hd hf hj hT
    obtain ⟨fu, rfl⟩ : ∃ f, fu = f + 1 := ⟨fu - 1, by omega⟩
    obtain ⟨T', t1, t2⟩ := ih fu (j + 1) (hpQ T e j none) (by omega) (by omega) (by omega) hT
    unfold hl_AL14_clear_27
    refine ⟨T', ?_, ?_⟩
    · rw [if_neg (nI_ngt (by omega) (by omega) (by omega)), Option.bind_some, hT, ix_N (by omega) (by omega), Option.bind_some, nI_add1]; exact t1
    · exact (hX.pQ hX.rf (by simp)).tr t2
theorem h_clearS {S : hS} {ts : List Txt} (hf : hE hs_fix S.1) (h : HTx S ts) (hM : S.1.length ≤ am_M + 1) : ∃ S', h_AL14_clear S = some S' ∧ HTx S' [] ∧ GW S S' ∧ S'.1 = S.1 ∧ (∀ k a, ¬ ((k = 1401 ∨ k = 1402) ∧ a = 21) → S'.2.1 k a = S.2.1 k a) ∧ S'.2.2.1 = S.2.2.1 ∧ S'.2.2.2.1 = S.2.2.2.1 ∧ S'.2.2.2.2.1 = S.2.2.2.2.1 ∧ S'.2.2.2.2.2.1 = S.2.2.2.2.2.1 := by
  have h21 : 21 < S.1.length := fix_lt hf (by omega)
  obtain ⟨e, a1, a2, a3, a4, a5, a6⟩ := h
  obtain ⟨T, hT⟩ : ∃ T, T = hpI (hpI S 1402 21 ((S.2.1 1402 21) + 1)) 1401 21 0 := ⟨_, rfl⟩
  have tx : hX [1401, 1402] [] [] [] [] [] S T := by rw [hT]; exact (hX.pI (hX.pI hX.rf (by decide)) (by decide))
  have t2 : T.2.2 = S.2.2 := by rw [hT]; rfl
  have ti : ∀ k a, ¬ ((k = 1401 ∨ k = 1402) ∧ a = 21) → T.2.1 k a = S.2.1 k a := fun k a c => by
    rw [hT]
    show up2 (up2 S.2.1 1402 21 _) 1401 21 0 k a = _
    rw [up2_ne (fun q => c ⟨Or.inl q.1, q.2⟩), up2_ne (fun q => c ⟨Or.inr q.1, q.2⟩)]
  obtain ⟨S', s1, s2⟩ := h_clear_loop (e := e) (n := ts.length) (sh := S.1) a5 a3 _ 100000 0 T rfl (by omega) (by omega) tx.sh
  have e1 : S'.1 = S.1 := s2.sh.trans tx.sh
  have ei : ∀ k a, S'.2.1 k a = T.2.1 k a := fun k a => s2.ei k (by simp) a
  have er : S'.2.2.2.1 = S.2.2.2.1 := by
    funext k
    rw [s2.r k (by simp), t2]
  have hl : S'.2.2.1 = S.2.2.1 := by
    funext k
    rw [s2.l k (by simp), t2]
  have ha : S'.2.2.2.2.1 = S.2.2.2.2.1 := by
    funext k
    rw [s2.a k (by simp), t2]
  have hb : S'.2.2.2.2.2.1 = S.2.2.2.2.2.1 := by
    funext k
    rw [s2.b k (by simp), t2]
  refine ⟨S', ?_, ⟨e, by rw [er]; exact a1, by rw [e1]; exact a2, by rw [e1]; exact a3, ?_, Nat.zero_le _, fun j t ht => by cases ht⟩, ⟨by rw [e1]; exact hE.rf, fun k a hk _ => ?_, fun k a _ _ => by rw [hl], fun k a _ _ => by rw [er], fun a _ _ => by rw [ha], fun a _ _ => by rw [hb], fun a hk hl => ?_⟩, e1, fun k a c => (ei k a).trans (ti k a c), hl, er, ha, hb⟩
  · unfold h_AL14_clear
    rw [a1, a4, ← hT]
    have s1' : hl_AL14_clear_27 100000 (some e) (nI ts.length) 0 T = some S' := s1
    rw [s1']; rfl
  · rw [ei, hT]; simp [hpI, up2]; rfl
  · rw [ei]; exact ti k a (fun q => hk (by rcases q.1 with c | c <;> rw [c] <;> decide))
  · rw [s2.q a (fun q => ?_), t2]
    have q' : a = e := by simpa using q
    rcases a2 with c | ⟨_, c, _⟩
    · omega
    · rw [← q'] at c; exact hk c
