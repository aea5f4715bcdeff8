/-! Counting. -/
section
variable {n : Nat} {S : hS} {s : mS} {z : Z} {g : hG} {q u : List Ins} {L : Nat}
theorem wt_filt (L : List Ins) : (L.filter fun i => i.wt == true) = L.filter Ins.wt ∧ (L.filter fun i => i.wt == false) = L.filter fun i => !i.wt := by
  refine ⟨List.filter_congr (fun i _ => ?_), List.filter_congr (fun i _ => ?_)⟩
  · cases i.wt <;> rfl
  · cases i.wt <;> rfl
theorem i_count (h : INV n S s z g q u L) (a : Int32) : ∃ r, h_Ho_count a S = some r ∧ d_Mo_count a s = some r := by
  have hw1 := d_wait h.hq h.ok.q true
  have hw0 := d_wait h.hq h.ok.q false
  rw [(wt_filt z.ins).1, ← isq_len h.ok.q h.hz.Q.isq, ← h.hz.Q.qs] at hw1
  rw [(wt_filt z.ins).2, ← h.hz.Q.isu, ← h.hz.Q.us] at hw0
  have w1 : d_Mo_waiting 1 s = some (S.2.1 1101 16) := hw1
  have w0 : d_Mo_waiting 0 s = some (S.2.1 1103 16) := hw0
  obtain ⟨t, _, t2, t3, _⟩ := h.tp
  have e1 : S.2.1 1 0 = s.1 1 := t2.trans t3.symm
  have e3 : S.2.1 401 10 = s.1 10 := h.hz.B.mem.trans h.hb.mem.symm
  have e4 : S.2.1 403 10 = s.1 15 := h.hz.B.asn.trans h.hb.asn.symm
  have e2 : S.2.1 504 20 = s.1 56 := h.t1.trans h.t2.symm
  have eb : h_Di_journalBlocks S = some ((((s.1 60) + 500) - 1) / 500) := by
    unfold h_Di_journalBlocks h_Di_blocksOf
    rw [h.dk.2.2.2]; rfl
  have wu : ∀ x, h_Ho_whileUp x S = if (s.1 57 : Int32) = 0 then some 0 else some x := fun x => by
    unfold h_Ho_whileUp
    rw [h.dk.1]
  unfold h_Ho_count d_Mo_count
  rw [eb, wu, wu, wu, wu, wu, wu, h.dk.1, h.dk.2.2.1, h.dy, e1, e2, e3, e4, w1, w0, Option.bind_some, wu]
  generalize S.2.1 1101 16 = x5
  generalize S.2.1 1103 16 = x6
  generalize s.1 55 = x1
  generalize s.1 56 = x2
  generalize s.1 10 = x3
  generalize s.1 15 = x4
  generalize s.1 1 = x7
  generalize s.1 60 + 500 - 1 = x8
  generalize s.1 59 = x9
  generalize s.1 57 = y
  by_cases c0 : y = 0
  · subst c0
    by_cases a0 : a = 0
    · subst a0; exact ⟨_, rfl, rfl⟩
    by_cases a1 : a = 1
    · subst a1; exact ⟨_, rfl, rfl⟩
    by_cases a2 : a = 2
    · subst a2; exact ⟨_, rfl, rfl⟩
    by_cases a3 : a = 3
    · subst a3; exact ⟨_, rfl, rfl⟩
    by_cases a4 : a = 4
    · subst a4; exact ⟨_, rfl, rfl⟩
    by_cases a5 : a = 5
    · subst a5; exact ⟨_, rfl, rfl⟩
    by_cases a6 : a = 6
    · subst a6; exact ⟨_, rfl, rfl⟩
    by_cases a7 : a = 7
    · subst a7; exact ⟨_, rfl, rfl⟩
    by_cases a8 : a = 8
    · subst a8; exact ⟨_, rfl, rfl⟩
    by_cases a9 : a = 9
    · subst a9; exact ⟨_, rfl, rfl⟩
    refine ⟨-1, by rw [if_neg a0, if_neg a1, if_neg a2, if_neg a3, if_neg a4, if_neg a5, if_neg a6, if_neg a7, if_neg a8, if_neg a9], ?_⟩
    rw [if_neg (show ¬ ¬ (0 : Int32) = 0 by decide)]
    by_cases c1 : a ≤ 0
    · rw [if_pos c1, if_pos a8, if_neg a0, if_neg a1, if_neg a2, if_neg a3, if_neg a4, if_neg a5, if_neg a6, if_neg a7, if_neg a8, if_neg a9]
    · have hlt : ¬ a < 7 := fun c7 => by
        obtain ⟨N, rfl, hN⟩ := i32N (a := a) (fun c => c1 (Int32.le_of_lt c))
        have h7 : N < 7 := (nI_lt' (b := 7) (by omega) (by omega)).mp c7
        have hc : N = 0 ∨ N = 1 ∨ N = 2 ∨ N = 3 ∨ N = 4 ∨ N = 5 ∨ N = 6 := by omega
        rcases hc with rfl | rfl | rfl | rfl | rfl | rfl | rfl
        · exact a0 rfl
        · exact a1 rfl
        · exact a2 rfl
        · exact a3 rfl
        · exact a4 rfl
        · exact a5 rfl
        · exact a6 rfl
      rw [if_neg c1, if_neg hlt, if_pos a8, if_neg a0, if_neg a1, if_neg a2, if_neg a3, if_neg a4, if_neg a5, if_neg a6, if_neg a7, if_neg a8, if_neg a9]
  · simp only [c0, if_false, not_false_eq_true, if_true]
    by_cases a0 : a = 0
    · subst a0; exact ⟨_, rfl, rfl⟩
    by_cases a1 : a = 1
    · subst a1; exact ⟨_, rfl, rfl⟩
    by_cases a2 : a = 2
    · subst a2; exact ⟨_, rfl, rfl⟩
    by_cases a3 : a = 3
    · subst a3; exact ⟨_, rfl, rfl⟩
    by_cases a4 : a = 4
    · subst a4; exact ⟨_, rfl, rfl⟩
    by_cases a5 : a = 5
    · subst a5; exact ⟨_, rfl, rfl⟩
    by_cases a6 : a = 6
    · subst a6; exact ⟨_, rfl, rfl⟩
    by_cases a7 : a = 7
    · subst a7; exact ⟨_, rfl, rfl⟩
    by_cases a8 : a = 8
    · subst a8; exact ⟨_, rfl, rfl⟩
    by_cases a9 : a = 9
    · subst a9; exact ⟨_, rfl, rfl⟩
    exact ⟨-1, by rw [if_neg a0, if_neg a1, if_neg a2, if_neg a3, if_neg a4, if_neg a5, if_neg a6, if_neg a7, if_neg a8, if_neg a9], by rw [if_neg a0, if_neg a1, if_neg a2, if_neg a3, if_neg a4, if_neg a5, if_neg a6, if_neg a7, if_neg a8, if_neg a9]⟩
end
