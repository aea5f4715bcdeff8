/-! The class reads a message's fields. -/
def RQ (S : hS) (M : List Nat) (a : Nat) (cs : List (Bool × List Nat)) (as : List (List Nat)) : Prop := (RD S M a) ∧ (S.2.1 810 2 = nI cs.length) ∧ (∀ (j : Nat) (c : Bool × List Nat), cs[j]? = some c → S.2.2.2.2.1 3 j = nI (b36 c.2) ∧ S.2.2.2.2.1 4 j = b2i c.1) ∧ (S.2.1 812 2 = nI as.length) ∧ (∀ (j : Nat) (d : List Nat), as[j]? = some d → S.2.2.2.2.2.1 6 j = lI (num d : Nat))
theorem RQ.rd {S : hS} {M : List Nat} {a : Nat} {cs : List (Bool × List Nat)} {as : List (List Nat)} (h : RQ S M a cs as) : RD S M a := h.1
theorem RQ.cn {S : hS} {M : List Nat} {a : Nat} {cs : List (Bool × List Nat)} {as : List (List Nat)} (h : RQ S M a cs as) : S.2.1 810 2 = nI cs.length := h.2.1
theorem RQ.cr {S : hS} {M : List Nat} {a : Nat} {cs : List (Bool × List Nat)} {as : List (List Nat)} (h : RQ S M a cs as) : ∀ (j : Nat) (c : Bool × List Nat), cs[j]? = some c → S.2.2.2.2.1 3 j = nI (b36 c.2) ∧ S.2.2.2.2.1 4 j = b2i c.1 := h.2.2.1
theorem RQ.an {S : hS} {M : List Nat} {a : Nat} {cs : List (Bool × List Nat)} {as : List (List Nat)} (h : RQ S M a cs as) : S.2.1 812 2 = nI as.length := h.2.2.2.1
theorem RQ.ar {S : hS} {M : List Nat} {a : Nat} {cs : List (Bool × List Nat)} {as : List (List Nat)} (h : RQ S M a cs as) : ∀ (j : Nat) (d : List Nat), as[j]? = some d → S.2.2.2.2.2.1 6 j = lI (num d : Nat) := h.2.2.2.2
theorem RQ.p {S S' : hS} {M : List Nat} {a b : Nat} {cs : List (Bool × List Nat)} {as : List (List Nat)} (h : RQ S M a cs as) {ki kl : List Nat} (w : hX ki kl [] [] [] [] S S') (h1 : 810 ∉ ki ∧ 812 ∉ ki) (hr : RD S' M b) : RQ S' M b cs as := ⟨hr, (w.ei _ h1.1 _).trans h.cn, fun j c hj => ⟨(w.ea _ (by simp) _).trans (h.cr j c hj).1, (w.ea _ (by simp) _).trans (h.cr j c hj).2⟩, (w.ei _ h1.2 _).trans h.an, fun j d hj => (w.eb _ (by simp) _).trans (h.ar j d hj)⟩
abbrev kX (S S' : hS) : Prop := hX [802, 803, 810, 812] [] [] [3, 4] [6] [] S S'
theorem q_rk {S : hS} {M : List Nat} {a : Nat} {cs : List (Bool × List Nat)} {as : List (List Nat)} (h : RQ S M a cs as) (b : Bool) (hc : cs.length < 12) : ∃ S', h_Me_readKnownCode (b2i b) S = some S' ∧ kX S S' ∧ S'.2.1 812 2 = S.2.1 812 2 ∧ ((a + (if b then 3 else 4) + 2 ≤ M.length ∧ RQ S' M (a + (if b then 3 else 4)) (cs ++ [(b, sl M a (if b then 3 else 4))]) as ∧ S'.2.1 803 2 = S.2.1 803 2) ∨ (¬ a + (if b then 3 else 4) + 2 ≤ M.length ∧ S'.2.1 803 2 = 0 ∧ ∃ e, RD S' M e ∧ S'.2.1 810 2 = nI (cs.length + 1))) := by
  rcases h_rk h.rd b h.cn hc with ⟨q, S', b1, b2, b3, b4, b5, b6, b7, b8, b9⟩ | ⟨q, S', e, b1, b2, b3, b4, b5, b9⟩
  · refine ⟨S', b1, b9.mono (by decide) (by simp) (by simp) (by simp) (by simp) (by simp), b5, Or.inl ⟨q, ⟨b2, by rw [b4, List.length_append, List.length_singleton], fun j c hj => ?_, b5.trans h.an, fun j d hj => (b9.eb _ (by simp) _).trans (h.ar j d hj)⟩, b3⟩⟩
    rcases get_snoc' hj with w | ⟨w1, w2⟩
    · have hne : j ≠ cs.length := by have := get_lt' w; omega
      obtain ⟨c1, c2⟩ := b8 j hne
      exact ⟨c1.trans (h.cr j c w).1, c2.trans (h.cr j c w).2⟩
    · subst w1; subst w2; exact ⟨b6, b7⟩
  · exact ⟨S', b1, b9.mono (by decide) (by simp) (by simp) (by simp) (by simp) (by simp), b5, Or.inr ⟨q, b3, e, b2, b4⟩⟩
theorem q_ra {S : hS} {M : List Nat} {a : Nat} {cs : List (Bool × List Nat)} {as : List (List Nat)} (h : RQ S M a cs as) (hc : as.length < 4) : ∃ S', h_Me_readAmount S = some S' ∧ kX S S' ∧ S'.2.1 810 2 = S.2.1 810 2 ∧ (((a + 15 + 2 ≤ M.length ∧ isD (sl M a 15) = true) ∧ RQ S' M (a + 15) cs (as ++ [sl M a 15]) ∧ S'.2.1 803 2 = S.2.1 803 2) ∨ (¬ (a + 15 + 2 ≤ M.length ∧ isD (sl M a 15) = true) ∧ S'.2.1 803 2 = 0)) := by
  rcases h_ra h.rd h.an hc with ⟨q, S', b1, b2, b3, b4, b5, b6, b7⟩ | ⟨q, S', e, b1, b2, b3, b4, b7⟩
  · refine ⟨S', b1, b7.mono (by decide) (by simp) (by simp) (by simp) (by simp) (by simp), b7.ei _ (by decide) _, Or.inl ⟨q, ⟨b2, (b7.ei _ (by decide) _).trans h.cn, fun j c hj => ⟨(b7.ea _ (by simp) _).trans (h.cr j c hj).1, (b7.ea _ (by simp) _).trans (h.cr j c hj).2⟩, by rw [b4, List.length_append, List.length_singleton], fun j d hj => ?_⟩, b3⟩⟩
    rcases get_snoc' hj with w | ⟨w1, w2⟩
    · have hne : j ≠ as.length := by have := get_lt' w; omega
      exact (b6 j hne).trans (h.ar j d w)
    · subst w1; subst w2; exact b5
  · exact ⟨S', b1, b7.mono (by decide) (by simp) (by simp) (by simp) (by simp) (by simp), b7.ei _ (by decide) _, Or.inr ⟨q, b3⟩⟩
theorem kX.r {S S' : hS} (w : kX S S') : rX S S' := w.mono (by decide) (by simp) (by simp) (by simp) (by simp) (by simp)
abbrev fX (S S' : hS) : Prop := hX [802, 803, 810, 812, 814, 815, 816, 817] [818] [] [3, 4] [6] [] S S'
theorem kX.f {S S' : hS} (w : kX S S') : fX S S' := w.mono (by decide) (by simp) (by simp) (by simp) (by simp) (by simp)
/-! One field after the other. -/
section FLD
variable {v n i fu : Nat} {S : hS} {M : List Nat} {a : Nat} {cs : List (Bool × List Nat)} {as : List (List Nat)} {Q : Option hS → Prop}
theorem ff_end (h1 : am_sl v = some (nI n)) (hn : n < 10) (h : n ≤ i) (hi : i < 10) (k : Q (some S)) : Q (hl_Me_readFields_2 (fu + 1) v (nI i) S) := by
  unfold hl_Me_readFields_2
  rw [h1, Option.bind_some, if_pos (nI_le0 (by omega) (by omega) (by omega))]; exact k
theorem ff_x (h1 : am_sl v = some (nI n)) (h3 : S.2.1 803 2 = 0) (k : Q (some S)) : Q (hl_Me_readFields_2 (fu + 1) v (nI i) S) := by
  unfold hl_Me_readFields_2
  rw [h1, Option.bind_some]
  by_cases c : nI n ≤ nI i
  · rw [if_pos c]; exact k
  · rw [if_neg c, if_pos h3]; exact k
theorem ff_a (h1 : am_sl v = some (nI n)) (h2 : am_sc v (nI i) = some 97) (hi : i < n) (hn : n < 10) (h3 : S.2.1 803 2 = 1) {S' : hS} (e : h_Me_readKnownCode (b2i true) S = some S') (k : Q (hl_Me_readFields_2 fu v (nI (i + 1)) S')) : Q (hl_Me_readFields_2 (fu + 1) v (nI i) S) := by
  unfold hl_Me_readFields_2
  rw [h1, Option.bind_some, if_neg (nI_ngt (by omega) (by omega) (by omega)), h3, if_neg (by decide), h2, Option.bind_some, if_pos rfl, (show h_Me_readKnownCode 1 S = some S' from e), Option.bind_some, Option.bind_some, nI_add1]
  exact k
theorem ff_h (h1 : am_sl v = some (nI n)) (h2 : am_sc v (nI i) = some 104) (hi : i < n) (hn : n < 10) (h3 : S.2.1 803 2 = 1) {w : Int64} {S' : hS} (e : h_Me_readDigits (nI 2) S = some (w, S')) (k : Q (hl_Me_readFields_2 fu v (nI (i + 1)) (hpI S' 816 2 (Int64.toInt32 w)))) : Q (hl_Me_readFields_2 (fu + 1) v (nI i) S) := by
  unfold hl_Me_readFields_2
  rw [h1, Option.bind_some, if_neg (nI_ngt (by omega) (by omega) (by omega)), h3, if_neg (by decide), h2, Option.bind_some, if_neg (by decide), if_pos rfl, (show h_Me_readDigits 2 S = some (w, S') from e), Option.bind_some, Option.bind_some, nI_add1]
  exact k
theorem ff_l (h1 : am_sl v = some (nI n)) (h2 : am_sc v (nI i) = some 108) (hi : i < n) (hn : n < 10) (h3 : S.2.1 803 2 = 1) {S' : hS} (e : h_Me_readLegs S = some S') (k : Q (hl_Me_readFields_2 fu v (nI (i + 1)) S')) : Q (hl_Me_readFields_2 (fu + 1) v (nI i) S) := by
  unfold hl_Me_readFields_2
  rw [h1, Option.bind_some, if_neg (nI_ngt (by omega) (by omega) (by omega)), h3, if_neg (by decide), h2, Option.bind_some, if_neg (by decide), if_neg (by decide), if_pos rfl, e, Option.bind_some, Option.bind_some, nI_add1]
  exact k
theorem ff_m (h1 : am_sl v = some (nI n)) (h2 : am_sc v (nI i) = some 109) (hi : i < n) (hn : n < 10) (h3 : S.2.1 803 2 = 1) {w : Int64} {S' : hS} (e : h_Me_readCode (nI 3) S = some (w, S')) (k : Q (hl_Me_readFields_2 fu v (nI (i + 1)) (hpI S' 814 2 (Int64.toInt32 w)))) : Q (hl_Me_readFields_2 (fu + 1) v (nI i) S) := by
  unfold hl_Me_readFields_2
  rw [h1, Option.bind_some, if_neg (nI_ngt (by omega) (by omega) (by omega)), h3, if_neg (by decide), h2, Option.bind_some, if_neg (by decide), if_neg (by decide), if_neg (by decide), if_pos rfl, (show h_Me_readCode 3 S = some (w, S') from e), Option.bind_some, Option.bind_some, nI_add1]
  exact k
theorem ff_n (h1 : am_sl v = some (nI n)) (h2 : am_sc v (nI i) = some 110) (hi : i < n) (hn : n < 10) (h3 : S.2.1 803 2 = 1) {w : Int64} {S' : hS} (e : h_Me_readCode (nI 4) S = some (w, S')) (k : Q (hl_Me_readFields_2 fu v (nI (i + 1)) (hpI S' 814 2 (Int64.toInt32 w)))) : Q (hl_Me_readFields_2 (fu + 1) v (nI i) S) := by
  unfold hl_Me_readFields_2
  rw [h1, Option.bind_some, if_neg (nI_ngt (by omega) (by omega) (by omega)), h3, if_neg (by decide), h2, Option.bind_some, if_neg (by decide), if_neg (by decide), if_neg (by decide), if_neg (by decide), if_pos rfl, (show h_Me_readCode 4 S = some (w, S') from e), Option.bind_some, Option.bind_some, nI_add1]
  exact k
theorem ff_p (h1 : am_sl v = some (nI n)) (h2 : am_sc v (nI i) = some 112) (hi : i < n) (hn : n < 10) (h3 : S.2.1 803 2 = 1) {S' : hS} (e : h_Me_readKnownCode (b2i false) S = some S') (k : Q (hl_Me_readFields_2 fu v (nI (i + 1)) S')) : Q (hl_Me_readFields_2 (fu + 1) v (nI i) S) := by
  unfold hl_Me_readFields_2
  rw [h1, Option.bind_some, if_neg (nI_ngt (by omega) (by omega) (by omega)), h3, if_neg (by decide), h2, Option.bind_some, if_neg (by decide), if_neg (by decide), if_neg (by decide), if_neg (by decide), if_neg (by decide), if_pos rfl, (show h_Me_readKnownCode 0 S = some S' from e), Option.bind_some, Option.bind_some, nI_add1]
  exact k
theorem ff_r (h1 : am_sl v = some (nI n)) (h2 : am_sc v (nI i) = some 114) (hi : i < n) (hn : n < 10) (h3 : S.2.1 803 2 = 1) {w : Int64} {S' : hS} (e : h_Me_readCode (nI 8) S = some (w, S')) (k : Q (hl_Me_readFields_2 fu v (nI (i + 1)) (hpL S' 818 2 w))) : Q (hl_Me_readFields_2 (fu + 1) v (nI i) S) := by
  unfold hl_Me_readFields_2
  rw [h1, Option.bind_some, if_neg (nI_ngt (by omega) (by omega) (by omega)), h3, if_neg (by decide), h2, Option.bind_some, if_neg (by decide), if_neg (by decide), if_neg (by decide), if_neg (by decide), if_neg (by decide), if_neg (by decide), if_pos rfl, (show h_Me_readCode 8 S = some (w, S') from e), Option.bind_some, Option.bind_some, nI_add1]
  exact k
theorem ff_s (h1 : am_sl v = some (nI n)) (h2 : am_sc v (nI i) = some 115) (hi : i < n) (hn : n < 10) (h3 : S.2.1 803 2 = 1) {S' : hS} (e : h_Me_readSort S = some S') (k : Q (hl_Me_readFields_2 fu v (nI (i + 1)) S')) : Q (hl_Me_readFields_2 (fu + 1) v (nI i) S) := by
  unfold hl_Me_readFields_2
  rw [h1, Option.bind_some, if_neg (nI_ngt (by omega) (by omega) (by omega)), h3, if_neg (by decide), h2, Option.bind_some, if_neg (by decide), if_neg (by decide), if_neg (by decide), if_neg (by decide), if_neg (by decide), if_neg (by decide), if_neg (by decide), if_pos rfl, e, Option.bind_some, Option.bind_some, nI_add1]
  exact k
theorem ff_v (h1 : am_sl v = some (nI n)) (h2 : am_sc v (nI i) = some 118) (hi : i < n) (hn : n < 10) (h3 : S.2.1 803 2 = 1) {S' : hS} (e : h_Me_readAmount S = some S') (k : Q (hl_Me_readFields_2 fu v (nI (i + 1)) S')) : Q (hl_Me_readFields_2 (fu + 1) v (nI i) S) := by
  unfold hl_Me_readFields_2
  rw [h1, Option.bind_some, if_neg (nI_ngt (by omega) (by omega) (by omega)), h3, if_neg (by decide), h2, Option.bind_some, if_neg (by decide), if_neg (by decide), if_neg (by decide), if_neg (by decide), if_neg (by decide), if_neg (by decide), if_neg (by decide), if_neg (by decide), if_pos rfl, e, Option.bind_some, Option.bind_some, nI_add1]
  exact k
theorem ff_y (h1 : am_sl v = some (nI n)) (h2 : am_sc v (nI i) = some 121) (hi : i < n) (hn : n < 10) (h3 : S.2.1 803 2 = 1) {S' : hS} (e : h_Me_readPriority S = some S') (k : Q (hl_Me_readFields_2 fu v (nI (i + 1)) S')) : Q (hl_Me_readFields_2 (fu + 1) v (nI i) S) := by
  unfold hl_Me_readFields_2
  rw [h1, Option.bind_some, if_neg (nI_ngt (by omega) (by omega) (by omega)), h3, if_neg (by decide), h2, Option.bind_some, if_neg (by decide), if_neg (by decide), if_neg (by decide), if_neg (by decide), if_neg (by decide), if_neg (by decide), if_neg (by decide), if_neg (by decide), if_neg (by decide), if_pos rfl, e, Option.bind_some, Option.bind_some, nI_add1]
  exact k
end FLD
/-! Sort, priority, legs. -/
theorem lI_cmp (a b : Nat) (ha : a < 100) (hb : b < 100) : lg_cmp (lI (a : Int)) (Int32.toInt64 (nI b)) = 0 ↔ a = b := by
  rw [nI_toL (by omega), cmp_eq0 (by omega) (by omega)]; omega
theorem sl_one {M : List Nat} {a z : Nat} (h : M[a]? = some z) : sl M a 1 = [z] := by
  have := sl_succ (M := M) (a := a) (i := 0) (z := z) h
  rw [sl_0] at this
  exact this
theorem q_rs {S : hS} {M : List Nat} {a : Nat} (h : RD S M a) (h3 : S.2.1 803 2 = 1) : ∃ S', h_Me_readSort S = some S' ∧ hX [802, 803, 815] [] [] [] [] [] S S' ∧ ((a + 3 ≤ M.length ∧ (M.getD a 0 = 28 ∨ M.getD a 0 = 12) ∧ RD S' M (a + 1) ∧ S'.2.1 803 2 = 1 ∧ S'.2.1 815 2 = b2i (decide (M.getD a 0 = 28))) ∨ (¬ (a + 3 ≤ M.length ∧ (M.getD a 0 = 28 ∨ M.getD a 0 = 12)) ∧ S'.2.1 803 2 = 0)) := by
  have vS : h_Me_valueOf 83 = some (nI 28) := by decide
  have vC : h_Me_valueOf 67 = some (nI 12) := by decide
  rcases h_rc h 1 (by omega) with ⟨q, S1, a1, a2, a3, a4⟩ | ⟨q, S1, b, a1, a2, a3, a4⟩
  · obtain ⟨z, hz⟩ := get_lt (ks := M) (j := a) (by omega)
    have hz36 := h.m36 z (List.mem_of_getElem? hz)
    have hg : M.getD a 0 = z := by rw [List.getD_eq_getElem?_getD, hz]; rfl
    have hb1 : b36 (sl M a 1) = z := by rw [sl_one hz]; show 0 * 36 + z = z; omega
    have a1' : h_Me_readCode 1 S = some (lI (z : Int), S1) := by rw [← hb1]; exact a1
    rw [hg]
    by_cases h28 : z = 28
    · have w : hX [802, 803, 815] [] [] [] [] [] S (hpI S1 815 2 1) := (a4.mono (by decide) (by simp) (by simp) (by simp) (by simp) (by simp)).pI (by decide)
      refine ⟨hpI S1 815 2 1, ?_, w, Or.inl ⟨q, Or.inl h28, a2.x (hX.rf.pI (by decide)) (by rw [← a2.at]; simp [hpI, up2]) (by omega), ?_, ?_⟩⟩
      · unfold h_Me_readSort
        rw [a1', Option.bind_some, vS, Option.bind_some, if_neg (fun c => c ((lI_cmp z 28 (by omega) (by omega)).mpr h28)), Option.bind_some, if_pos (Or.inr rfl), if_pos (by decide)]
      · rw [← h3, ← a3]; simp [hpI, up2]
      · rw [decide_eq_true h28]; simp [hpI, up2, b2i]
    · by_cases h12 : z = 12
      · have w : hX [802, 803, 815] [] [] [] [] [] S (hpI S1 815 2 0) := (a4.mono (by decide) (by simp) (by simp) (by simp) (by simp) (by simp)).pI (by decide)
        refine ⟨hpI S1 815 2 0, ?_, w, Or.inl ⟨q, Or.inr h12, a2.x (hX.rf.pI (by decide)) (by rw [← a2.at]; simp [hpI, up2]) (by omega), ?_, ?_⟩⟩
        · unfold h_Me_readSort
          rw [a1', Option.bind_some, vS, Option.bind_some, if_pos (fun c => h28 ((lI_cmp z 28 (by omega) (by omega)).mp c)), Option.bind_some, if_pos (Or.inl rfl), if_neg (by decide), vC, Option.bind_some, if_pos ((lI_cmp z 12 (by omega) (by omega)).mpr h12)]
        · rw [← h3, ← a3]; simp [hpI, up2]
        · rw [decide_eq_false h28]; simp [hpI, up2, b2i]
      · have w : hX [802, 803, 815] [] [] [] [] [] S (hpI (hpI S1 815 2 0) 803 2 0) := ((a4.mono (by decide) (by simp) (by simp) (by simp) (by simp) (by simp)).pI (by decide)).pI (by decide)
        refine ⟨hpI (hpI S1 815 2 0) 803 2 0, ?_, w, Or.inr ⟨fun c => c.2.elim h28 h12, by simp [hpI, up2]⟩⟩
        unfold h_Me_readSort
        rw [a1', Option.bind_some, vS, Option.bind_some, if_pos (fun c => h28 ((lI_cmp z 28 (by omega) (by omega)).mp c)), Option.bind_some, if_pos (Or.inl rfl), if_neg (by decide), vC, Option.bind_some, if_neg (fun c => h12 ((lI_cmp z 12 (by omega) (by omega)).mp c))]
  · have a1' : h_Me_readCode 1 S = some (0, S1) := a1
    have w : hX [802, 803, 815] [] [] [] [] [] S (hpI (hpI S1 815 2 0) 803 2 0) := ((a4.mono (by decide) (by simp) (by simp) (by simp) (by simp) (by simp)).pI (by decide)).pI (by decide)
    refine ⟨hpI (hpI S1 815 2 0) 803 2 0, ?_, w, Or.inr ⟨fun c => by omega, by simp [hpI, up2]⟩⟩
    unfold h_Me_readSort
    rw [a1', Option.bind_some, vS, Option.bind_some, if_pos (show ¬ lg_cmp 0 (Int32.toInt64 (nI 28)) = 0 by decide), Option.bind_some, if_pos (Or.inl rfl), if_neg (by decide), vC, Option.bind_some, if_neg (show ¬ lg_cmp 0 (Int32.toInt64 (nI 12)) = 0 by decide)]
theorem q_ry {S : hS} {M : List Nat} {a : Nat} (h : RD S M a) (h3 : S.2.1 803 2 = 1) : ∃ S', h_Me_readPriority S = some S' ∧ hX [802, 803, 817] [] [] [] [] [] S S' ∧ ((a + 3 ≤ M.length ∧ (1 ≤ M.getD a 0 ∧ M.getD a 0 ≤ 9) ∧ RD S' M (a + 1) ∧ S'.2.1 803 2 = 1 ∧ S'.2.1 817 2 = nI (M.getD a 0)) ∨ (¬ (a + 3 ≤ M.length ∧ (1 ≤ M.getD a 0 ∧ M.getD a 0 ≤ 9)) ∧ S'.2.1 803 2 = 0)) := by
  have bad : ∀ (S1 : hS), h_Me_readDigits 1 S = some (0, S1) → pX S S1 → ∃ S', h_Me_readPriority S = some S' ∧ hX [802, 803, 817] [] [] [] [] [] S S' ∧ S'.2.1 803 2 = 0 := fun S1 e w => by
    refine ⟨hpI (hpI S1 817 2 0) 803 2 0, ?_, ((w.mono (by decide) (by simp) (by simp) (by simp) (by simp) (by simp)).pI (by decide)).pI (by decide), by simp [hpI, up2]⟩
    unfold h_Me_readPriority
    rw [e, Option.bind_some, if_neg (show ¬ (1 : Int32) ≤ Int64.toInt32 0 by decide)]; rfl
  rcases h_rd h 1 (by omega) with ⟨⟨q, qd⟩, S1, a1, a2, a3, a4⟩ | ⟨q, S1, b, a1, a2, a3, a4⟩
  · obtain ⟨z, hz⟩ := get_lt (ks := M) (j := a) (by omega)
    have hg : M.getD a 0 = z := by rw [List.getD_eq_getElem?_getD, hz]; rfl
    have hb1 : num (sl M a 1) = z := by rw [sl_one hz]; show 0 * 10 + z = z; omega
    have hz10 : z < 10 := by
      rw [sl_one hz] at qd
      have := List.all_eq_true.mp qd z List.mem_cons_self
      simpa using this
    have a1' : h_Me_readDigits 1 S = some (lI (z : Int), S1) := by rw [← hb1]; exact a1
    rw [hg]
    by_cases h1 : 1 ≤ z
    · have w : hX [802, 803, 817] [] [] [] [] [] S (hpI S1 817 2 (nI z)) := (a4.mono (by decide) (by simp) (by simp) (by simp) (by simp) (by simp)).pI (by decide)
      refine ⟨hpI S1 817 2 (nI z), ?_, w, Or.inl ⟨q, ⟨h1, by omega⟩, a2.x (hX.rf.pI (by decide)) (by rw [← a2.at]; simp [hpI, up2]) (by omega), ?_, by simp [hpI, up2]⟩⟩
      · unfold h_Me_readPriority
        rw [a1', Option.bind_some, lI_to32, if_pos (show (1 : Int32) ≤ nI z from nI_le0 (a := 1) (by omega) (by omega) h1)]
      · rw [← h3, ← a3]; simp [hpI, up2]
    · have hz0 : z = 0 := by omega
      obtain ⟨S', b1, b2, b3⟩ := bad S1 (by rw [a1', hz0]; rfl) a4
      exact ⟨S', b1, b2, Or.inr ⟨fun c => by omega, b3⟩⟩
  · obtain ⟨S', b1, b2, b3⟩ := bad S1 a1 a4
    refine ⟨S', b1, b2, Or.inr ⟨fun c => q ⟨by omega, ?_⟩, b3⟩⟩
    obtain ⟨z, hz⟩ := get_lt (ks := M) (j := a) (by omega)
    have hg : M.getD a 0 = z := by rw [List.getD_eq_getElem?_getD, hz]; rfl
    rw [sl_one hz]
    rw [hg] at c
    unfold isD
    simp
    omega
def legC (M : List Nat) (at0 : Nat) : List (Bool × List Nat) := [(false, sl M at0 4), (false, sl M (at0 + 4) 4), (true, sl M (at0 + 8) 3)]
def legsC (M : List Nat) : Nat → List (Bool × List Nat)
  | 0 => []
  | k + 1 => legsC M k ++ legC M (17 + 26 * k)
def legsA (M : List Nat) : Nat → List (List Nat)
  | 0 => []
  | k + 1 => legsA M k ++ [sl M (17 + 26 * k + 11) 15]
theorem legsC_len (M : List Nat) (k : Nat) : (legsC M k).length = 3 * k := by
  induction k with
  | zero => rfl
  | succ k ih => show (legsC M k ++ legC M (17 + 26 * k)).length = _; rw [List.length_append, ih]; show 3 * k + 3 = _; omega
theorem legsA_len (M : List Nat) (k : Nat) : (legsA M k).length = k := by
  induction k with
  | zero => rfl
  | succ k ih => show (legsA M k ++ [_]).length = _; rw [List.length_append, ih]; rfl
def legsOk (M : List Nat) : Nat → Bool
  | 0 => true
  | k + 1 => legsOk M k && isD (sl M (17 + 26 * k + 11) 15)
