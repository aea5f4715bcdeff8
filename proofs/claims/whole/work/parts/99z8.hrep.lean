/-! The class: one instruction is replaced. -/
theorem hpI_comm (S : hS) {k k' a a' : Nat} {v v' : Int32} (h : k ≠ k') : hpI (hpI S k a v) k' a' v' = hpI (hpI S k' a' v') k a v := by
  have : up2 (up2 S.2.1 k a v) k' a' v' = up2 (up2 S.2.1 k' a' v') k a v := by
    funext c d
    by_cases c1 : c = k' ∧ d = a'
    · obtain ⟨rfl, rfl⟩ := c1
      rw [up2_eq, up2_ne (fun q => h q.1.symm), up2_eq]
    · rw [up2_ne c1]
      by_cases c2 : c = k ∧ d = a
      · obtain ⟨rfl, rfl⟩ := c2
        rw [up2_eq, up2_eq]
      · rw [up2_ne c2, up2_ne c2, up2_ne c1]
  unfold hpI
  rw [this]
theorem tko_pI {k a : Nat} {v : Int32} : ∀ (fu v0 : Nat) (v1 : Int32) (v2 : Nat) (v3 v4 : Int32) (S : hS), hl_Qu_takeOut_5 fu v0 v1 v2 v3 v4 (hpI S k a v) = (hl_Qu_takeOut_5 fu v0 v1 v2 v3 v4 S).map fun r => (r.1, hpI r.2 k a v) := by
  intro fu
  induction fu with
  | zero => intro v0 v1 v2 v3 v4 S; rfl
  | succ fu ih =>
    intro v0 v1 v2 v3 v4 S
    unfold hl_Qu_takeOut_5
    by_cases c : v1 ≤ v4
    · rw [if_pos c, if_pos c]; rfl
    · rw [if_neg c, if_neg c]
      show ((am_ix v4 (hln S.1 v0)).bind fun j2 => ((S.2.2.2.2.2.2 v0 j2).bind fun b5 => _)) = _
      cases am_ix v4 (hln S.1 v0) with
      | none => rfl
      | some j =>
        rw [Option.bind_some, Option.bind_some]
        cases S.2.2.2.2.2.2 v0 j with
        | none => rfl
        | some b =>
          rw [Option.bind_some, Option.bind_some]
          by_cases e : some b = some v2
          · rw [if_pos e, if_pos e, Option.bind_some, Option.bind_some]; exact ih _ _ _ _ _ S
          · rw [if_neg e, if_neg e]
            show ((am_ix v3 (hln S.1 v0)).bind fun j18 => _).bind _ = _
            cases am_ix v3 (hln S.1 v0) with
            | none => rfl
            | some t =>
              rw [Option.bind_some, Option.bind_some, Option.bind_some, Option.bind_some]
              exact ih _ _ _ _ _ (hpQ S v0 t (some b))
theorem tko_pA {a t : Nat} {v : Int32} : ∀ (fu v0 : Nat) (v1 : Int32) (v2 : Nat) (v3 v4 : Int32) (S : hS), hl_Qu_takeOut_5 fu v0 v1 v2 v3 v4 (hpA S a t v) = (hl_Qu_takeOut_5 fu v0 v1 v2 v3 v4 S).map fun r => (r.1, hpA r.2 a t v) := by
  intro fu
  induction fu with
  | zero => intro v0 v1 v2 v3 v4 S; rfl
  | succ fu ih =>
    intro v0 v1 v2 v3 v4 S
    unfold hl_Qu_takeOut_5
    by_cases c : v1 ≤ v4
    · rw [if_pos c, if_pos c]; rfl
    · rw [if_neg c, if_neg c]
      show ((am_ix v4 (hln S.1 v0)).bind fun j2 => ((S.2.2.2.2.2.2 v0 j2).bind fun b5 => _)) = _
      cases am_ix v4 (hln S.1 v0) with
      | none => rfl
      | some j =>
        rw [Option.bind_some, Option.bind_some]
        cases S.2.2.2.2.2.2 v0 j with
        | none => rfl
        | some b =>
          rw [Option.bind_some, Option.bind_some]
          by_cases e : some b = some v2
          · rw [if_pos e, if_pos e, Option.bind_some, Option.bind_some]; exact ih _ _ _ _ _ S
          · rw [if_neg e, if_neg e]
            show ((am_ix v3 (hln S.1 v0)).bind fun j18 => _).bind _ = _
            cases am_ix v3 (hln S.1 v0) with
            | none => rfl
            | some t =>
              rw [Option.bind_some, Option.bind_some, Option.bind_some, Option.bind_some]
              exact ih _ _ _ _ _ (hpQ S v0 t (some b))
theorem lv_pI {k a x : Nat} {v : Int32} (S : hS) (h1 : k ≠ 704) (h2 : k ≠ 1101) (h3 : k ≠ 1103) : h_Qu_leave (some x) (hpI S k a v) = (h_Qu_leave (some x) S).map fun r => hpI r k a v := by
  have e : ∀ k', k ≠ k' → ∀ b, (hpI S k a v).2.1 k' b = S.2.1 k' b := fun k' hk b => up2_ne (fun q => hk q.1.symm)
  unfold h_Qu_leave h_Qu_takeOut
  rw [if_neg (by simp), if_neg (by simp), Option.bind_some, Option.bind_some, e _ h1, e _ h2, e _ h3, tko_pI, tko_pI]
  by_cases c : S.2.1 704 x = 1
  · rw [if_neg (fun q => q c), if_neg (fun q => q c)]
    cases hl_Qu_takeOut_5 100000 17 (S.2.1 1101 16) x 0 0 S with
    | none => rfl
    | some r => exact congrArg some (hpI_comm _ h2)
  · rw [if_pos c, if_pos c]
    by_cases c2 : S.2.1 704 x = 0
    · rw [if_neg (fun q => q c2), if_neg (fun q => q c2)]
      cases hl_Qu_takeOut_5 100000 18 (S.2.1 1103 16) x 0 0 S with
      | none => rfl
      | some r => exact congrArg some (hpI_comm _ h3)
    · rw [if_pos c2, if_pos c2]; rfl
theorem lv_pA {a t x : Nat} {v : Int32} (S : hS) : h_Qu_leave (some x) (hpA S a t v) = (h_Qu_leave (some x) S).map fun r => hpA r a t v := by
  have e : ∀ k' b, (hpA S a t v).2.1 k' b = S.2.1 k' b := fun k' b => rfl
  unfold h_Qu_leave h_Qu_takeOut
  rw [if_neg (by simp), if_neg (by simp), Option.bind_some, Option.bind_some, e, e, e, tko_pA, tko_pA]
  by_cases c : S.2.1 704 x = 1
  · rw [if_neg (fun q => q c), if_neg (fun q => q c)]
    cases hl_Qu_takeOut_5 100000 17 (S.2.1 1101 16) x 0 0 S with
    | none => rfl
    | some r => rfl
  · rw [if_pos c, if_pos c]
    by_cases c2 : S.2.1 704 x = 0
    · rw [if_neg (fun q => q c2), if_neg (fun q => q c2)]
      cases hl_Qu_takeOut_5 100000 18 (S.2.1 1103 16) x 0 0 S with
      | none => rfl
      | some r => rfl
    · rw [if_pos c2, if_pos c2]; rfl
theorem HI.pI {S : hS} {z : Z} {ad : Nat → Option Nat} {x y k : Nat} {i : Ins} {v : Int32} (h : HI S z ad y i) (hy : y ≠ x) : HI (hpI S k x v) z ad y i := by
  have e : ∀ k', (hpI S k x v).2.1 k' y = S.2.1 k' y := fun k' => up2_na hy
  obtain ⟨ks, hN⟩ := h.net
  obtain ⟨ws, hW⟩ := h.awt
  exact ⟨⟨h.e.k, (e _).trans h.e.2.1, h.e.nm⟩, (e _).trans h.who, (e _).trans h.pr, (e _).trans h.st, ⟨ks, hN.rc, hN.kc, hN.rd, hN.kd, (e _).trans hN.sz, hN.le, hN.nd, hN.row, hN.mem⟩, ⟨ws, hW.rw, hW.kw, (e _).trans hW.sz, hW.le, hW.nd, hW.row, hW.mem⟩⟩
theorem HI.pA {S : hS} {z : Z} {ad : Nat → Option Nat} {x y t : Nat} {i : Ins} {v : Int32} (h : HI S z ad y i) (hy : y ≠ x) : HI (hpA S (x + 1) t v) z ad y i := by
  obtain ⟨ws, hW⟩ := h.awt
  exact ⟨h.e, h.who, h.pr, h.st, h.net, ⟨ws, hW.rw, hW.kw, hW.sz, hW.le, hW.nd, fun j v hj => (congrFun (up2_row (by omega)) j).trans (hW.row j v hj), hW.mem⟩⟩
theorem HZ.pI {S : hS} {z : Z} {g : hG} {q u : List Ins} {L : Nat} (h : HZ S z g q u L []) {x k : Nat} {v : Int32} (hk : k = 703 ∨ k = 707) (hx : ∀ j ∈ z.ins, g.xi j ≠ x) : HZ (hpI S k x v) z g q u L [] := by
  have w : hX [703, 707] [] [] [] [] [] S (hpI S k x v) := hX.rf.pI (by rcases hk with c | c <;> rw [c] <;> decide)
  exact ⟨h.B.xk w (by simp) (by decide) (by decide) rfl rfl, ⟨(w.ei _ (by decide) _).trans h.Q.qs, h.Q.q, (w.ei _ (by decide) _).trans h.Q.us, h.Q.u, fun j hj => (h.Q.ins j hj).pI (hx j hj), h.Q.inj, h.Q.isq, h.Q.isu⟩, h.K.x w (by decide), ⟨(w.ei _ (by decide) _).trans h.O.sz, fun t e he => by simp at he, fun e he => by simp at he, h.O.len⟩⟩
theorem HZ.pA {S : hS} {z : Z} {g : hG} {q u : List Ins} {L : Nat} (h : HZ S z g q u L []) {x t : Nat} {v : Int32} (hx : ∀ j ∈ z.ins, g.xi j ≠ x) : HZ (hpA S (x + 1) t v) z g q u L [] := by
  have w : hX [] [] [] [x + 1] [] [] S (hpA S (x + 1) t v) := hX.rf.pA (by simp)
  exact ⟨h.B.xk w (by simp) (by simp) (by simp) rfl rfl, ⟨(w.ei _ (by simp) _).trans h.Q.qs, h.Q.q, (w.ei _ (by simp) _).trans h.Q.us, h.Q.u, fun j hj => (h.Q.ins j hj).pA (hx j hj), h.Q.inj, h.Q.isq, h.Q.isu⟩, h.K.x w (by simp), ⟨(w.ei _ (by simp) _).trans h.O.sz, fun t e he => by simp at he, fun e he => by simp at he, h.O.len⟩⟩
/-- i' in the place of the one of its name -/
def repL (i' : Ins) (L : List Ins) : List Ins := L.map fun j => if sameK i' j then i' else j
theorem sameK_of {i i' : Ins} (h1 : i'.who = i.who) (h2 : i'.nm = i.nm) (j : Ins) : sameK i' j = sameK i j := by
  unfold sameK; rw [h1, h2]
theorem rep_mem {i i' : Ins} {L : List Ins} (h1 : i'.who = i.who) (h2 : i'.nm = i.nm) (hi : i ∈ L) (j : Ins) : j ∈ repL i' L ↔ j ∈ (L.filter fun j => !(sameK i j)) ∨ j = i' := by
  unfold repL
  rw [List.mem_map, List.mem_filter]
  constructor
  · rintro ⟨a, ha, e⟩
    rw [sameK_of h1 h2] at e
    cases hs : sameK i a with
    | true => rw [hs, if_pos rfl] at e; exact Or.inr e.symm
    | false => rw [hs, if_neg (by decide)] at e; subst e; exact Or.inl ⟨ha, by rw [hs]; rfl⟩
  · rintro (⟨a, b⟩ | e)
    · refine ⟨j, a, ?_⟩
      rw [sameK_of h1 h2, if_neg (fun q => by rw [q] at b; cases b)]
    · refine ⟨i, hi, ?_⟩
      rw [sameK_of h1 h2, if_pos (sameK_iff.mpr ⟨rfl, rfl⟩), e]
theorem rep_filt {i i' : Ins} (h1 : i'.who = i.who) (h2 : i'.nm = i.nm) (hw : i'.wt = true) (L : List Ins) : ((repL i' L).filter fun j => !j.wt) = (L.filter fun j => !(sameK i j)).filter fun j => !j.wt := by
  induction L with
  | nil => rfl
  | cons a L ih =>
    have e : repL i' (a :: L) = (if sameK i' a then i' else a) :: repL i' L := rfl
    rw [e, sameK_of h1 h2]
    cases hs : sameK i a with
    | true => rw [if_pos rfl, List.filter_cons_of_neg (by rw [hw]; decide), ih, List.filter_cons_of_neg (by rw [hs]; decide)]
    | false =>
      rw [if_neg (by decide), List.filter_cons_of_pos (p := fun j => !(sameK i j)) (by rw [hs]; rfl)]
      cases hwa : a.wt with
      | true => rw [List.filter_cons_of_neg (by rw [hwa]; decide), List.filter_cons_of_neg (by rw [hwa]; decide), ih]
      | false => rw [List.filter_cons_of_pos (by rw [hwa]; rfl), List.filter_cons_of_pos (by rw [hwa]; rfl), ih]
theorem del_len1 {L : List Ins} (hu : L.Pairwise fun i j => ¬ (i.who = j.who ∧ i.nm = j.nm)) {i : Ins} (hi : i ∈ L) : (L.filter fun j => !(sameK i j)).length + 1 = L.length := by
  induction L with
  | nil => cases hi
  | cons a L ih =>
    rw [List.pairwise_cons] at hu
    rcases List.mem_cons.mp hi with e | e
    · subst e
      rw [List.filter_cons_of_neg (by rw [sameK_iff.mpr ⟨rfl, rfl⟩]; decide), List.filter_eq_self.mpr (fun j hj => ?_), List.length_cons]
      cases hs : sameK i j with
      | false => rfl
      | true => exact absurd (sameK_iff.mp hs) (hu.1 j hj)
    · have : sameK i a = false := by
        cases hs : sameK i a with
        | false => rfl
        | true => exact absurd ⟨(sameK_iff.mp hs).1.symm, (sameK_iff.mp hs).2.symm⟩ (hu.1 i e)
      rw [List.filter_cons_of_pos (by rw [this]; rfl), List.length_cons, List.length_cons, ih hu.2 e]
theorem rep_len (i' : Ins) (L : List Ins) : (repL i' L).length = L.length := List.length_map ..
