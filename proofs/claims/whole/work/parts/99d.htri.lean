/-! The class's resolving: trials. -/
section HTRI
variable {z : Z} {ad : Nat → Option Nat} {x : Nat} {i : Ins} {ks : List Nat}
theorem mem_drop_cons {P Q : Nat} {j : Nat} (hP : ks[j]? = some P) : Q ∈ ks.drop j ↔ Q = P ∨ Q ∈ ks.drop (j + 1) := by
  rw [drop_cons hP, List.mem_cons]
theorem nd_drop (hnd : ks.Nodup) {P : Nat} {j : Nat} (hP : ks[j]? = some P) : P ∉ ks.drop (j + 1) := by
  have h := List.Nodup.sublist (List.drop_sublist j ks) hnd
  rw [drop_cons hP] at h
  exact (List.nodup_cons.mp h).1
theorem h_begin_loop (hok : okN z 0 i) : ∀ (d fu j : Nat) (S : hS), HN S ad z.fc x i ks → HT S z ad → ks.length - j = d → d < fu → j ≤ ks.length → ∃ S', hl_In_beginTrial_7 fu x (nI j) S = some S' ∧ hX [] [1009] [] [] [] [] S S' ∧ ∀ P y, ad P = some y → S'.2.2.1 1009 y = if P ∈ ks.drop j then lI (z.lev P) else S.2.2.1 1009 y := by
  have hl4 := hok.len
  intro d
  induction d with
  | zero =>
    intro fu j S hN hT hd hf hj
    have hle := hN.le
    obtain ⟨fu, rfl⟩ : ∃ f, fu = f + 1 := ⟨fu - 1, by omega⟩
    refine ⟨S, ?_, hX.rf, fun P y _ => ?_⟩
    · unfold hl_In_beginTrial_7
      rw [hN.sz, if_pos (nI_le0 (by omega) (by omega) (by omega))]
    · rw [List.drop_of_length_le (by omega), if_neg (by simp)]
  | succ d ih =>
    intro fu j S hN hT hd hf hj
    have hle := hN.le
    obtain ⟨fu, rfl⟩ : ∃ f, fu = f + 1 := ⟨fu - 1, by omega⟩
    obtain ⟨P, hP⟩ := get_lt (ks := ks) (j := j) (by omega)
    obtain ⟨y, e1, e2, e3, e4, e5⟩ := hN.at hok.len hP
    have w1 : hX [] [1009] [] [] [] [] S (hpL S 1009 y (S.2.2.1 1001 y)) := hX.rf.pL (by decide)
    obtain ⟨S', q1, q2, q3⟩ := ih fu (j + 1) (hpL S 1009 y (S.2.2.1 1001 y)) (hN.x w1 (by simp) (by simp) (by simp) (by simp)) (hT.x w1 (by simp) (by decide)) (by omega) (by omega) (by omega)
    refine ⟨S', ?_, w1.tr q2, fun Q w hw => ?_⟩
    · unfold hl_In_beginTrial_7
      rw [hN.sz, if_neg (nI_ngt (by omega) (by omega) (by omega)), hN.rc, Option.bind_some, e1, Option.bind_some, e3, Option.bind_some, nI_add1, q1]
    · rw [q3 Q w hw]
      show (if Q ∈ ks.drop (j + 1) then _ else up2 S.2.2.1 1009 y _ 1009 w) = _
      rw [up2_at]
      by_cases hQ : Q = P
      · subst hQ
        rw [e4] at hw; cases hw
        rw [if_neg (nd_drop hN.nd hP), if_pos rfl, if_pos ((mem_drop_cons hP).mpr (Or.inl rfl)), (hT.pos Q y e4).lev]
      · have h2 : w ≠ y := fun c => hQ (hT.inj Q P y (by rw [← c]; exact hw) e4)
        rw [if_neg h2]
        by_cases hm : Q ∈ ks.drop (j + 1)
        · rw [if_pos hm, if_pos ((mem_drop_cons hP).mpr (Or.inr hm))]
        · rw [if_neg hm, if_neg (fun c => ((mem_drop_cons hP).mp c).elim hQ hm)]
theorem h_join_loop (hok : okN z 0 i) : ∀ (d fu j : Nat) (S : hS), HN S ad z.fc x i ks → HT S z ad → ks.length - j = d → d < fu → j ≤ ks.length → ∃ S', hl_In_joinTrial_2 fu x (nI j) S = some S' ∧ hX [] [1009] [] [] [] [] S S' ∧ ∀ P y, ad P = some y → S'.2.2.1 1009 y = if P ∈ ks.drop j then S.2.2.1 1009 y + lI (i.net z.fc P) else S.2.2.1 1009 y := by
  have hl4 := hok.len
  intro d
  induction d with
  | zero =>
    intro fu j S hN hT hd hf hj
    have hle := hN.le
    obtain ⟨fu, rfl⟩ : ∃ f, fu = f + 1 := ⟨fu - 1, by omega⟩
    refine ⟨S, ?_, hX.rf, fun P y _ => ?_⟩
    · unfold hl_In_joinTrial_2
      rw [hN.sz, if_pos (nI_le0 (by omega) (by omega) (by omega))]
    · rw [List.drop_of_length_le (by omega), if_neg (by simp)]
  | succ d ih =>
    intro fu j S hN hT hd hf hj
    have hle := hN.le
    obtain ⟨fu, rfl⟩ : ∃ f, fu = f + 1 := ⟨fu - 1, by omega⟩
    obtain ⟨P, hP⟩ := get_lt (ks := ks) (j := j) (by omega)
    obtain ⟨y, e1, e2, e3, e4, e5⟩ := hN.at hok.len hP
    have w1 : hX [] [1009] [] [] [] [] S (hpL S 1009 y (S.2.2.1 1009 y + lI (i.net z.fc P))) := hX.rf.pL (by decide)
    obtain ⟨S', q1, q2, q3⟩ := ih fu (j + 1) (hpL S 1009 y (S.2.2.1 1009 y + lI (i.net z.fc P))) (hN.x w1 (by simp) (by simp) (by simp) (by simp)) (hT.x w1 (by simp) (by decide)) (by omega) (by omega) (by omega)
    refine ⟨S', ?_, w1.tr q2, fun Q w hw => ?_⟩
    · unfold hl_In_joinTrial_2
      rw [hN.sz, if_neg (nI_ngt (by omega) (by omega) (by omega)), hN.rc, Option.bind_some, e1, Option.bind_some, e3, Option.bind_some, hN.rd, Option.bind_some, e2, Option.bind_some, e5, nI_add1, q1]
    · rw [q3 Q w hw]
      show (if Q ∈ ks.drop (j + 1) then up2 S.2.2.1 1009 y _ 1009 w + _ else up2 S.2.2.1 1009 y _ 1009 w) = _
      rw [up2_at]
      by_cases hQ : Q = P
      · subst hQ
        rw [e4] at hw; cases hw
        rw [if_neg (nd_drop hN.nd hP), if_pos rfl, if_pos ((mem_drop_cons hP).mpr (Or.inl rfl))]
      · have h2 : w ≠ y := fun c => hQ (hT.inj Q P y (by rw [← c]; exact hw) e4)
        rw [if_neg h2]
        by_cases hm : Q ∈ ks.drop (j + 1)
        · rw [if_pos hm, if_pos ((mem_drop_cons hP).mpr (Or.inr hm))]
        · rw [if_neg hm, if_neg (fun c => ((mem_drop_cons hP).mp c).elim hQ hm)]
theorem h_leave_loop (hok : okN z 0 i) : ∀ (d fu j : Nat) (S : hS), HN S ad z.fc x i ks → HT S z ad → ks.length - j = d → d < fu → j ≤ ks.length → ∃ S', hl_In_leaveTrial_7 fu x (nI j) S = some S' ∧ hX [] [1009] [] [] [] [] S S' ∧ ∀ P y, ad P = some y → S'.2.2.1 1009 y = if P ∈ ks.drop j then S.2.2.1 1009 y - lI (i.net z.fc P) else S.2.2.1 1009 y := by
  have hl4 := hok.len
  intro d
  induction d with
  | zero =>
    intro fu j S hN hT hd hf hj
    have hle := hN.le
    obtain ⟨fu, rfl⟩ : ∃ f, fu = f + 1 := ⟨fu - 1, by omega⟩
    refine ⟨S, ?_, hX.rf, fun P y _ => ?_⟩
    · unfold hl_In_leaveTrial_7
      rw [hN.sz, if_pos (nI_le0 (by omega) (by omega) (by omega))]
    · rw [List.drop_of_length_le (by omega), if_neg (by simp)]
  | succ d ih =>
    intro fu j S hN hT hd hf hj
    have hle := hN.le
    obtain ⟨fu, rfl⟩ : ∃ f, fu = f + 1 := ⟨fu - 1, by omega⟩
    obtain ⟨P, hP⟩ := get_lt (ks := ks) (j := j) (by omega)
    obtain ⟨y, e1, e2, e3, e4, e5⟩ := hN.at hok.len hP
    have w1 : hX [] [1009] [] [] [] [] S (hpL S 1009 y (S.2.2.1 1009 y - lI (i.net z.fc P))) := hX.rf.pL (by decide)
    obtain ⟨S', q1, q2, q3⟩ := ih fu (j + 1) (hpL S 1009 y (S.2.2.1 1009 y - lI (i.net z.fc P))) (hN.x w1 (by simp) (by simp) (by simp) (by simp)) (hT.x w1 (by simp) (by decide)) (by omega) (by omega) (by omega)
    refine ⟨S', ?_, w1.tr q2, fun Q w hw => ?_⟩
    · unfold hl_In_leaveTrial_7
      rw [hN.sz, if_neg (nI_ngt (by omega) (by omega) (by omega)), hN.rc, Option.bind_some, e1, Option.bind_some, e3, Option.bind_some, hN.rd, Option.bind_some, e2, Option.bind_some, e5, nI_add1, q1]
    · rw [q3 Q w hw]
      show (if Q ∈ ks.drop (j + 1) then up2 S.2.2.1 1009 y _ 1009 w - _ else up2 S.2.2.1 1009 y _ 1009 w) = _
      rw [up2_at]
      by_cases hQ : Q = P
      · subst hQ
        rw [e4] at hw; cases hw
        rw [if_neg (nd_drop hN.nd hP), if_pos rfl, if_pos ((mem_drop_cons hP).mpr (Or.inl rfl))]
      · have h2 : w ≠ y := fun c => hQ (hT.inj Q P y (by rw [← c]; exact hw) e4)
        rw [if_neg h2]
        by_cases hm : Q ∈ ks.drop (j + 1)
        · rw [if_pos hm, if_pos ((mem_drop_cons hP).mpr (Or.inr hm))]
        · rw [if_neg hm, if_neg (fun c => ((mem_drop_cons hP).mp c).elim hQ hm)]
theorem l_add0 (a : Int64) : a + lI 0 = a := by show a + 0 = a; simp
theorem l_sub0 (a : Int64) : a - lI 0 = a := by show a - 0 = a; simp
theorem HN.net0 {S : hS} (hN : HN S ad z.fc x i ks) {P : Nat} (h : P ∉ ks) : i.net z.fc P = 0 := by
  by_cases h0 : i.net z.fc P = 0
  · exact h0
  · exact absurd ((hN.mem P).mpr (net_mem h0)) h
theorem h_begin {S : hS} (hok : okN z 0 i) (hN : HN S ad z.fc x i ks) (hT : HT S z ad) : ∃ S', h_In_beginTrial x S = some S' ∧ hX [705] [1009] [] [] [] [] S S' ∧ S'.2.1 705 x = 1 ∧ (∀ w, w ≠ x → S'.2.1 705 w = S.2.1 705 w) ∧ ∀ P y, ad P = some y → S'.2.2.1 1009 y = if P ∈ i.pls z.fc then lI (z.lev P) else S.2.2.1 1009 y := by
  have hle := hN.le
  have hl4 := hok.len
  have w1 : hX [705] [1009] [] [] [] [] S (hpI S 705 x 1) := hX.rf.pI (by decide)
  obtain ⟨S', q1, q2, q3⟩ := h_begin_loop hok _ 100000 0 (hpI S 705 x 1) (hN.x w1 (by decide) (by simp) (by simp) (by simp)) (hT.x w1 (by decide) (by decide)) rfl (by omega) (by omega)
  refine ⟨S', ?_, w1.tr (q2.mono (by simp) (by simp) (by simp) (by simp) (by simp) (by simp)), (q2.ei _ (by simp) _).trans (by simp [hpI, up2]), fun w hw => (q2.ei _ (by simp) _).trans (by simp [hpI, up2, hw]), fun P y hy => ?_⟩
  · unfold h_In_beginTrial
    rw [show (0 : Int32) = nI 0 from rfl, q1]; rfl
  · rw [q3 P y hy, List.drop_zero]
    by_cases h : P ∈ ks
    · rw [if_pos h, if_pos ((hN.mem P).mp h)]
    · rw [if_neg h, if_neg (fun c => h ((hN.mem P).mpr c))]; rfl
theorem h_join {S : hS} (hok : okN z 0 i) (hN : HN S ad z.fc x i ks) (hT : HT S z ad) : ∃ S', h_In_joinTrial x S = some S' ∧ hX [] [1009] [] [] [] [] S S' ∧ ∀ P y, ad P = some y → S'.2.2.1 1009 y = S.2.2.1 1009 y + lI (i.net z.fc P) := by
  have hle := hN.le
  have hl4 := hok.len
  obtain ⟨S', q1, q2, q3⟩ := h_join_loop hok _ 100000 0 S hN hT rfl (by omega) (by omega)
  refine ⟨S', ?_, q2, fun P y hy => ?_⟩
  · unfold h_In_joinTrial
    rw [show (0 : Int32) = nI 0 from rfl, q1]; rfl
  · rw [q3 P y hy, List.drop_zero]
    by_cases h : P ∈ ks
    · rw [if_pos h]
    · rw [if_neg h, hN.net0 h, l_add0]
theorem h_leave {S : hS} (hok : okN z 0 i) (hN : HN S ad z.fc x i ks) (hT : HT S z ad) : ∃ S', h_In_leaveTrial x S = some S' ∧ hX [705] [1009] [] [] [] [] S S' ∧ S'.2.1 705 x = 0 ∧ (∀ w, w ≠ x → S'.2.1 705 w = S.2.1 705 w) ∧ ∀ P y, ad P = some y → S'.2.2.1 1009 y = S.2.2.1 1009 y - lI (i.net z.fc P) := by
  have hle := hN.le
  have hl4 := hok.len
  have w1 : hX [705] [1009] [] [] [] [] S (hpI S 705 x 0) := hX.rf.pI (by decide)
  obtain ⟨S', q1, q2, q3⟩ := h_leave_loop hok _ 100000 0 (hpI S 705 x 0) (hN.x w1 (by decide) (by simp) (by simp) (by simp)) (hT.x w1 (by decide) (by decide)) rfl (by omega) (by omega)
  refine ⟨S', ?_, w1.tr (q2.mono (by simp) (by simp) (by simp) (by simp) (by simp) (by simp)), (q2.ei _ (by simp) _).trans (by simp [hpI, up2]), fun w hw => (q2.ei _ (by simp) _).trans (by simp [hpI, up2, hw]), fun P y hy => ?_⟩
  · unfold h_In_leaveTrial
    have q1' : hl_In_leaveTrial_7 100000 x 0 (hpI S 705 x 0) = some S' := q1
    rw [q1']; rfl
  · rw [q3 P y hy, List.drop_zero]
    by_cases h : P ∈ ks
    · rw [if_pos h]; rfl
    · rw [if_neg h, hN.net0 h, l_sub0]; rfl
def lstB (z : Z) (m : Nat → Bool) (T : Nat → Int) (i : Ins) (P : Nat) : Bool := z.tks i P && (!(m P) && decide (T P < z.flr P))
theorem h_last_loop {S : hS} (hN : HN S ad z.fc x i ks) (hT : HT S z ad) (hok : okN z 0 i) (hF : okF z) {L : Nat} {m : Nat → Bool} (hm : ∀ P y, ad P = some y → (S.2.1 1008 y = nI L ↔ m P = true)) {T : Nat → Int} (ht : ∀ P y, P ∈ ks → ad P = some y → S.2.2.1 1009 y = lI (T P) ∧ inL (T P)) : ∀ (d fu j : Nat), ks.length - j = d → d < fu → j ≤ ks.length → hl_In_isLastTooMany_2 fu x (nI L) (nI j) S = some (b2i ((ks.drop j).any (lstB z m T i))) := by
  have hle := hN.le
  have hl4 := hok.len
  intro d
  induction d with
  | zero =>
    intro fu j hd hf hj
    obtain ⟨fu, rfl⟩ : ∃ f, fu = f + 1 := ⟨fu - 1, by omega⟩
    unfold hl_In_isLastTooMany_2
    rw [hN.sz, if_pos (nI_le0 (by omega) (by omega) (by omega)), List.drop_of_length_le (by omega)]; rfl
  | succ d ih =>
    intro fu j hd hf hj
    obtain ⟨fu, rfl⟩ : ∃ f, fu = f + 1 := ⟨fu - 1, by omega⟩
    obtain ⟨P, hP⟩ := get_lt (ks := ks) (j := j) (by omega)
    obtain ⟨y, e1, e2, e3, e4, e5⟩ := hN.at hok.len hP
    have IH := ih fu (j + 1) (by omega) (by omega) (by omega)
    have hfl := inP_flr hF (hT.inr P y e4)
    have hp := hT.pos P y e4
    obtain ⟨ht1, ht2⟩ := ht P y (List.mem_of_getElem? hP) e4
    unfold hl_In_isLastTooMany_2
    rw [hN.sz, if_neg (nI_ngt (by omega) (by omega) (by omega)), hN.rc, Option.bind_some, e1, Option.bind_some, h_takes hN hT hok hP, Option.bind_some, drop_cons hP, List.any_cons]
    cases htk : z.tks i P with
    | false =>
      have : lstB z m T i P = false := by unfold lstB; rw [htk]; rfl
      rw [if_pos (by decide), nI_add1, IH, this, Bool.false_or]
    | true =>
      have htt := tks_iff.mp htk
      rw [if_neg (by decide), e3, Option.bind_some]
      cases hmm : m P with
      | true =>
        have : lstB z m T i P = false := by unfold lstB; rw [htk, hmm]; rfl
        rw [if_pos ((hm P y e4).mpr hmm), nI_add1, IH, this, Bool.false_or]
      | false =>
        rw [if_neg (fun q => by have := (hm P y e4).mp q; rw [hmm] at this; cases this), ht1, hp.flr (Or.inr htt.2)]
        by_cases hc : T P < z.flr P
        · have : lstB z m T i P = true := by unfold lstB; rw [htk, hmm, decide_eq_true hc]; rfl
          rw [if_neg (fun q => by have := (cmp_ge0 ht2 (by omega)).mp q; omega), this]; rfl
        · have : lstB z m T i P = false := by unfold lstB; rw [htk, hmm, decide_eq_false hc]; rfl
          rw [if_pos ((cmp_ge0 ht2 (by omega)).mpr (by omega)), nI_add1, IH, this, Bool.false_or]
theorem h_last {S : hS} (hN : HN S ad z.fc x i ks) (hT : HT S z ad) (hok : okN z 0 i) (hF : okF z) {L : Nat} {m : Nat → Bool} (hm : ∀ P y, ad P = some y → (S.2.1 1008 y = nI L ↔ m P = true)) {T : Nat → Int} (ht : ∀ P y, P ∈ i.pls z.fc → ad P = some y → S.2.2.1 1009 y = lI (T P) ∧ inL (T P)) : h_In_isLastTooMany x (nI L) S = some (b2i ((i.pls z.fc).any (lstB z m T i))) := by
  have hle := hN.le
  have hl4 := hok.len
  unfold h_In_isLastTooMany
  rw [show (0 : Int32) = nI 0 from rfl, h_last_loop hN hT hok hF hm (fun P y hP hy => ht P y ((hN.mem P).mp hP) hy) _ 100000 0 rfl (by omega) (by omega), List.drop_zero, any_ks hN.mem]
end HTRI
theorem sumC_out1 {fc : Option Nat} {C : Ins → Bool} {P : Nat} {i : Ins} : ∀ {q : List Ins}, q.Pairwise (fun i j => ¬ (i.who = j.who ∧ i.nm = j.nm)) → i ∈ q → sumC fc (out1 C i) P q = sumC fc C P q - (if C i then i.net fc P else 0) := by
  intro q
  induction q with
  | nil => intro _ h; cases h
  | cons x q ih =>
    intro hp hi
    obtain ⟨h1, h2⟩ := List.pairwise_cons.mp hp
    show (if out1 C i x then x.net fc P else 0) + sumC fc (out1 C i) P q = (if C x then x.net fc P else 0) + sumC fc C P q - _
    by_cases hx : i = x
    · subst hx
      have : sumC fc (out1 C i) P q = sumC fc C P q := sumC_eq fun j hj => out1_ne (h1 j hj)
      rw [this, out1_i]
      simp only [Bool.false_eq_true, if_false]
      omega
    · have hiq : i ∈ q := (List.mem_cons.mp hi).resolve_left hx
      rw [ih h2 hiq, out1_ne (fun c => h1 i hiq ⟨c.1.symm, c.2.symm⟩)]
      omega
