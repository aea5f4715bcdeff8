/-! The class's queue: finding, leaving, coming. -/
/-- the one of that sender and name -/
def Z.opn (z : Z) (w : Nat) (nm : List Nat) : Option Ins := z.ins.find? fun i => decide (i.who = w ∧ i.nm = nm)
theorem opn_some {z : Z} {w : Nat} {nm : List Nat} {i : Ins} (h : z.opn w nm = some i) : i ∈ z.ins ∧ i.who = w ∧ i.nm = nm := by
  have h1 := List.find?_some h
  rw [decide_eq_true_iff] at h1
  exact ⟨List.mem_of_find?_eq_some h, h1⟩
theorem opn_none {z : Z} {w : Nat} {nm : List Nat} (h : z.opn w nm = none) : ∀ i ∈ z.ins, ¬ (i.who = w ∧ i.nm = nm) := fun i hi c => by
  have := List.find?_eq_none.mp h i hi
  simp [c.1, c.2] at this
theorem b36_inL {d : List Nat} (h1 : d.length = 8) (h2 : is36 d) : inL (b36 d) := by
  have := b36_lt 8 d h1 h2
  rw [show (36 : Nat) ^ 8 = 2821109907456 by decide] at this
  omega
theorem h_find_loop {S : hS} {z : Z} {g : hG} {v0 : Nat} {q : List Ins} (hk : S.1[v0]? = some (27, 250)) (hq : q.length ≤ 250) (hrow : ∀ (j : Nat) (i : Ins), q[j]? = some i → S.2.2.2.2.2.2 v0 j = some (g.xi i)) (hin : ∀ i ∈ q, S.2.1 700 (g.xi i) = nI i.who ∧ S.2.2.1 702 (g.xi i) = lI (b36 i.nm : Nat) ∧ i.who < 256 ∧ i.nm.length = 8 ∧ is36 i.nm) {w : Nat} {nm : List Nat} (hw : w < 256) (hn : nm.length = 8) (h36 : is36 nm) : ∀ (d fu j : Nat), q.length - j = d → d < fu → j ≤ q.length → hl_Qu_findIn_3 fu v0 (nI q.length) (nI w) (lI (b36 nm : Nat)) (nI j) S = some (((q.drop j).find? fun i => decide (i.who = w ∧ i.nm = nm)).map g.xi) := by
  intro d
  induction d with
  | zero =>
    intro fu j hd hf hj
    obtain ⟨fu, rfl⟩ : ∃ f, fu = f + 1 := ⟨fu - 1, by omega⟩
    unfold hl_Qu_findIn_3
    rw [if_pos (nI_le0 (by omega) (by omega) (by omega)), List.drop_of_length_le (by omega)]; rfl
  | succ d ih =>
    intro fu j hd hf hj
    obtain ⟨fu, rfl⟩ : ∃ f, fu = f + 1 := ⟨fu - 1, by omega⟩
    obtain ⟨i, hi⟩ := get_lt (ks := q) (j := j) (by omega)
    obtain ⟨a1, a2, a3, a4, a5⟩ := hin i (List.mem_of_getElem? hi)
    have IH := ih fu (j + 1) (by omega) (by omega) (by omega)
    have l1 := b36_inL a4 a5
    have l2 := b36_inL hn h36
    unfold hl_Qu_findIn_3
    rw [if_neg (nI_ngt (by omega) (by omega) (by omega)), hln_of hk, ix_N (by omega) (by omega), Option.bind_some, hrow j i hi, Option.bind_some, a1, a2, nI_add1, drop_cons hi, List.find?_cons]
    by_cases c1 : i.who = w
    · rw [if_neg (fun q => q (by rw [c1]))]
      by_cases c2 : i.nm = nm
      · rw [if_neg (fun q => q ((cmp_eq0 l1 l2).mpr (by rw [c2]))), decide_eq_true ⟨c1, c2⟩]; rfl
      · rw [if_pos (fun q => c2 (b36_inj 8 i.nm nm a4 hn a5 h36 (by have := (cmp_eq0 l1 l2).mp q; omega))), decide_eq_false (fun q => c2 q.2)]; exact IH
    · rw [if_pos (fun q => c1 (nI_inj (by omega) (by omega) q)), decide_eq_false (fun q => c1 q.1)]; exact IH
theorem find_un {L : List Ins} (hu : L.Pairwise fun i j => ¬ (i.who = j.who ∧ i.nm = j.nm)) {q : List Ins} (hq : ∀ i ∈ q, i ∈ L) {w : Nat} {nm : List Nat} {i : Ins} (h : (q.find? fun i => decide (i.who = w ∧ i.nm = nm)) = some i) : (L.find? fun i => decide (i.who = w ∧ i.nm = nm)) = some i := by
  have h1 := List.find?_some h
  rw [decide_eq_true_iff] at h1
  have hi := hq i (List.mem_of_find?_eq_some h)
  cases hf : L.find? fun i => decide (i.who = w ∧ i.nm = nm) with
  | none =>
    have := List.find?_eq_none.mp hf i hi
    simp [h1.1, h1.2] at this
  | some j =>
    have h2 := List.find?_some hf
    rw [decide_eq_true_iff] at h2
    rw [ins_eq hu hi (List.mem_of_find?_eq_some hf) (h1.1.trans h2.1.symm) (h1.2.trans h2.2.symm)]
/-- the class finds it -/
theorem h_find {n : Nat} {S : hS} {z : Z} {g : hG} {q u : List Ins} (hB : HB S z g) (hQ : HQ S z g q u) (hO : okZ n z) {w : Nat} {nm : List Nat} (hw : w < 256) (hn : nm.length = 8) (h36 : is36 nm) : h_Qu_find (nI w) (lI (b36 nm : Nat)) S = some ((z.opn w nm).map g.xi) := by
  have hm := hO.mem
  have hfix := hB.fix
  have qz : ∀ i ∈ q, i ∈ z.ins := fun i hi => ((hQ.isq.2 i).mp hi).1
  have uz : ∀ i ∈ u, i ∈ z.ins := fun i hi => by rw [hQ.isu, List.mem_filter] at hi; exact hi.1
  have hin : ∀ i ∈ z.ins, S.2.1 700 (g.xi i) = nI i.who ∧ S.2.2.1 702 (g.xi i) = lI (b36 i.nm : Nat) ∧ i.who < 256 ∧ i.nm.length = 8 ∧ is36 i.nm := fun i hi => by
    have h1 := hQ.ins i hi
    have h2 := hO.oki i hi
    exact ⟨h1.who, h1.e.nm, by have := h2.who; omega, h2.nm⟩
  have hql := isq_len hO.q hQ.isq
  have hul := filt_len z.ins
  rw [← hql, ← hQ.isu] at hul
  have hzl := hO.ins
  have f1 := h_find_loop (S := S) (z := z) (v0 := 17) (fix_at hfix rfl) (by omega) hQ.q (fun i hi => hin i (qz i hi)) hw hn h36 _ 100000 0 rfl (by omega) (by omega)
  have f2 := h_find_loop (S := S) (z := z) (v0 := 18) (fix_at hfix rfl) (by omega) hQ.u (fun i hi => hin i (uz i hi)) hw hn h36 _ 100000 0 rfl (by omega) (by omega)
  rw [List.drop_zero] at f1 f2
  have f1' : hl_Qu_findIn_3 100000 17 (nI q.length) (nI w) (lI (b36 nm : Nat)) 0 S = some ((q.find? fun i => decide (i.who = w ∧ i.nm = nm)).map g.xi) := f1
  have f2' : hl_Qu_findIn_3 100000 18 (nI u.length) (nI w) (lI (b36 nm : Nat)) 0 S = some ((u.find? fun i => decide (i.who = w ∧ i.nm = nm)).map g.xi) := f2
  unfold h_Qu_find h_Qu_findIn
  rw [hQ.qs, f1', Option.bind_some]
  cases hf : q.find? fun i => decide (i.who = w ∧ i.nm = nm) with
  | some i =>
    have : z.opn w nm = some i := find_un hO.unq qz hf
    rw [this, if_neg (by simp)]; rfl
  | none =>
    rw [Option.map_none, if_pos rfl, hQ.us, f2', Option.bind_some]
    cases hf2 : u.find? fun i => decide (i.who = w ∧ i.nm = nm) with
    | some i =>
      have : z.opn w nm = some i := find_un hO.unq uz hf2
      rw [this]
    | none =>
      have : z.opn w nm = none := by
        unfold Z.opn
        refine List.find?_eq_none.mpr fun i hi => ?_
        cases hwt : i.wt with
        | true => exact List.find?_eq_none.mp hf i ((hQ.isq.2 i).mpr ⟨hi, hwt⟩)
        | false => exact List.find?_eq_none.mp hf2 i (by rw [hQ.isu, List.mem_filter]; exact ⟨hi, by rw [hwt]; rfl⟩)
      rw [this]
/-- it leaves -/
theorem h_leaveQ {n : Nat} {S : hS} {z : Z} {g : hG} {q u : List Ins} {L : Nat} {es : List (Ins × Bool)} (h : HZ S z g q u L es) (hO : okZ n z) {i : Ins} (hi : i ∈ z.ins) : ∃ S', h_Qu_leave (some (g.xi i)) S = some S' ∧ HZ S' (z.del i) g (q.filter fun j => !(sameK i j)) (u.filter fun j => !(sameK i j)) L es ∧ hX [1101, 1103] [] [] [] [] [17, 18] S S' := by
  have hfix := h.B.fix
  have hI := h.Q.ins i hi
  have qz : ∀ j ∈ q, j ∈ z.ins := fun j hj => ((h.Q.isq.2 j).mp hj).1
  have uz : ∀ j ∈ u, j ∈ z.ins := fun j hj => by rw [h.Q.isu, List.mem_filter] at hj; exact hj.1
  have hql := isq_len hO.q h.Q.isq
  have hul := filt_len z.ins
  rw [← hql, ← h.Q.isu] at hul
  have hzl := hO.ins
  have hjn : ∀ j ∈ z.ins, g.xi i = g.xi j → i.who = j.who ∧ i.nm = j.nm := fun j hj e => h.Q.inj i hi j hj e
  have hmem : ∀ j ∈ (z.del i).ins, j ∈ z.ins := fun j hj => (List.mem_filter.mp (show j ∈ z.ins.filter fun j => !(sameK i j) from hj)).1
  have keep : ∀ {r : List Ins} {b : Bool}, (∀ j ∈ r, j ∈ z.ins ∧ j.wt = b) → i.wt ≠ b → (r.filter fun j => !(sameK i j)) = r := fun {r b} hr hb => by
    refine List.filter_eq_self.mpr fun j hj => ?_
    cases hs : sameK i j with
    | false => rfl
    | true =>
      exfalso
      obtain ⟨e1, e2⟩ := sameK_iff.mp hs
      have := ins_eq hO.unq hi (hr j hj).1 e1 e2
      rw [this] at hb
      exact hb (hr j hj).2
  have qw : ∀ j ∈ q, j ∈ z.ins ∧ j.wt = true := fun j hj => (h.Q.isq.2 j).mp hj
  have uw : ∀ j ∈ u, j ∈ z.ins ∧ j.wt = false := fun j hj => by
    rw [h.Q.isu, List.mem_filter] at hj
    exact ⟨hj.1, by simpa using hj.2⟩
  -- the rest, whichever row it left
  have fin : ∀ S', hX [1101, 1103] [] [] [] [] [17, 18] S S' → S'.2.1 1101 16 = nI (q.filter fun j => !(sameK i j)).length → (∀ (t : Nat) (j : Ins), (q.filter fun j => !(sameK i j))[t]? = some j → S'.2.2.2.2.2.2 17 t = some (g.xi j)) → S'.2.1 1103 16 = nI (u.filter fun j => !(sameK i j)).length → (∀ (t : Nat) (j : Ins), (u.filter fun j => !(sameK i j))[t]? = some j → S'.2.2.2.2.2.2 18 t = some (g.xi j)) → HZ S' (z.del i) g (q.filter fun j => !(sameK i j)) (u.filter fun j => !(sameK i j)) L es := fun S' w c1 c2 c3 c4 => by
    have hq27 : ∀ k ∈ [17, 18], hK S.1 k 27 := by
      intro k hk
      have : k = 17 ∨ k = 18 := by simpa using hk
      rcases this with rfl | rfl
      · exact ⟨250, fix_at hfix rfl⟩
      · exact ⟨250, fix_at hfix rfl⟩
    refine ⟨h.B.x w hq27 (by decide) (by simp) (by simp) rfl ((h.B.tab.x w (by decide) (by simp)).wIns _), ⟨c1, c2, c3, c4, fun j hj => ?_, fun a ha b hb e => h.Q.inj a (hmem a ha) b (hmem b hb) e, isq.del h.Q.isq i, ?_⟩, h.K.x w (by decide), ⟨(w.ei _ (by decide) _).trans h.O.sz, fun j e he => ⟨(w.eq _ (by decide) _).trans (h.O.row j e he).1, (w.ei _ (by decide) _).trans (h.O.row j e he).2.1, (h.O.row j e he).2.2.x w (by decide) (by simp)⟩, fun e he j hj => h.O.dj e he j (hmem j hj), ?_⟩⟩
    · have hj0 := h.Q.ins j (hmem j hj)
      obtain ⟨kj, hkj⟩ := hj0.net
      exact (hj0.x w (by decide) (w.ei _ (by decide) _) (by simp) (by simp) ⟨by simp, fun c => absurd ((hq27 _ c).un hkj.kc) (by decide), by simp⟩).eqv rfl rfl
    · rw [h.Q.isu]
      show _ = (z.ins.filter _).filter _
      rw [List.filter_filter, List.filter_filter]
      exact List.filter_congr fun j _ => Bool.and_comm _ _
    · have : (z.del i).ins.length ≤ z.ins.length := List.length_filter_le _ _
      have := h.O.len
      omega
  cases hwt : i.wt with
  | true =>
    obtain ⟨S2, t1, t2, t3⟩ := h_takeOut (x := g.xi i) (xs := q.map g.xi) (S := S) (v0 := 17) (by rw [List.length_map]; omega) (fix_at hfix rfl) (map_get.mp fun t j hj => h.Q.q t j hj)
    rw [filt_xi (fun j hj => hjn j (qz j hj)), List.length_map, List.length_map] at t1
    rw [filt_xi (fun j hj => hjn j (qz j hj))] at t2
    have w2 : hX [1101, 1103] [] [] [] [] [17, 18] S (hpI S2 1101 16 (nI (q.filter fun j => !(sameK i j)).length)) := (t3.mono (by simp) (by simp) (by simp) (by simp) (by simp) (by simp)).pI (by decide)
    have ku := keep uw (by rw [hwt]; decide)
    refine ⟨_, ?_, fin _ w2 (by simp [hpI, up2]) ?_ ?_ ?_, w2⟩
    · unfold h_Qu_leave
      rw [if_neg (by simp), Option.bind_some, hI.st, hwt, if_neg (by decide), h.Q.qs, t1, Option.bind_some]
    · exact (map_get (f := g.xi) (R := fun t b => S2.2.2.2.2.2.2 17 t = some b)).mpr t2
    · rw [ku, ← h.Q.us]
      have : (hpI S2 1101 16 (nI (q.filter fun j => !(sameK i j)).length)).2.1 1103 16 = S2.2.1 1103 16 := by simp [hpI, up2]
      rw [this, t3.ei _ (by simp)]
    · rw [ku]
      exact fun t j hj => (t3.eq _ (by simp) _).trans (h.Q.u t j hj)
  | false =>
    obtain ⟨S2, t1, t2, t3⟩ := h_takeOut (x := g.xi i) (xs := u.map g.xi) (S := S) (v0 := 18) (by rw [List.length_map]; omega) (fix_at hfix rfl) (map_get.mp fun t j hj => h.Q.u t j hj)
    rw [filt_xi (fun j hj => hjn j (uz j hj)), List.length_map, List.length_map] at t1
    rw [filt_xi (fun j hj => hjn j (uz j hj))] at t2
    have w2 : hX [1101, 1103] [] [] [] [] [17, 18] S (hpI S2 1103 16 (nI (u.filter fun j => !(sameK i j)).length)) := (t3.mono (by simp) (by simp) (by simp) (by simp) (by simp) (by simp)).pI (by decide)
    have kq := keep qw (by rw [hwt]; decide)
    refine ⟨_, ?_, fin _ w2 ?_ ?_ (by simp [hpI, up2]) ?_, w2⟩
    · unfold h_Qu_leave
      rw [if_neg (by simp), Option.bind_some, hI.st, hwt, if_pos (by decide), if_neg (by decide), h.Q.us, t1, Option.bind_some]
    · rw [kq, ← h.Q.qs]
      have : (hpI S2 1103 16 (nI (u.filter fun j => !(sameK i j)).length)).2.1 1101 16 = S2.2.1 1101 16 := by simp [hpI, up2]
      rw [this, t3.ei _ (by simp)]
    · rw [kq]
      exact fun t j hj => (t3.eq _ (by simp) _).trans (h.Q.q t j hj)
    · exact (map_get (f := g.xi) (R := fun t b => S2.2.2.2.2.2.2 18 t = some b)).mpr t2
theorem h_come_loop {g : hG} {q : List Ins} {x pr : Nat} (hq : q.length < 250) (hpr : pr < 10) (hpj : ∀ j ∈ q, j.pr < 10) : ∀ (p fu : Nat) (S : hS), p ≤ q.length → p < fu → S.2.1 703 x = nI pr → (∀ j ∈ q, S.2.1 703 (g.xi j) = nI j.pr) → (∀ (t : Nat) (j : Ins), t < p → q[t]? = some j → S.2.2.2.2.2.2 17 t = some (g.xi j)) → (∀ (t : Nat) (j : Ins), p ≤ t → q[t]? = some j → S.2.2.2.2.2.2 17 (t + 1) = some (g.xi j) ∧ pr < j.pr) → ∃ p' S', hl_Qu_come_46 fu x (nI p) S = some (nI p', S') ∧ p' ≤ p ∧ (∀ (t : Nat) (j : Ins), t < p' → q[t]? = some j → S'.2.2.2.2.2.2 17 t = some (g.xi j)) ∧ (∀ (t : Nat) (j : Ins), p' ≤ t → q[t]? = some j → S'.2.2.2.2.2.2 17 (t + 1) = some (g.xi j) ∧ pr < j.pr) ∧ (∀ j, 0 < p' → q[p' - 1]? = some j → j.pr ≤ pr) ∧ hX [] [] [] [] [] [17] S S' := by
  intro p
  induction p with
  | zero =>
    intro fu S hp hf h1 h2 h3 h4
    obtain ⟨fu, rfl⟩ : ∃ f, fu = f + 1 := ⟨fu - 1, by omega⟩
    refine ⟨0, S, ?_, Nat.le_refl _, h3, h4, fun j h => by omega, hX.rf⟩
    unfold hl_Qu_come_46
    rw [if_pos (show nI 0 ≤ 0 by decide)]
  | succ p ih =>
    intro fu S hp hf h1 h2 h3 h4
    obtain ⟨fu, rfl⟩ : ∃ f, fu = f + 1 := ⟨fu - 1, by omega⟩
    obtain ⟨j, hj⟩ := get_lt (ks := q) (j := p) (by omega)
    have hjq := List.mem_of_getElem? hj
    have hjp := hpj j hjq
    have hun : hl_Qu_come_46 (fu + 1) x (nI (p + 1)) S = (if (nI j.pr : Int32) ≤ nI pr then (some (nI (p + 1), S)) else (hl_Qu_come_46 fu x (nI p) (hpQ S 17 (p + 1) (some (g.xi j))))) := by
      conv => lhs; unfold hl_Qu_come_46
      rw [if_neg (show ¬ nI (p + 1) ≤ 0 from nI_ngt (b := 0) (by omega) (by omega) (by omega)), nI_succ_sub, ix_N (by omega) (by omega), Option.bind_some, h3 p j (by omega) hj, Option.bind_some, h2 j hjq, h1, ix_N (by omega) (by omega), Option.bind_some, i32_m1, nI_succ_sub]
    by_cases hc : j.pr ≤ pr
    · rw [if_pos (nI_le0 (by omega) (by omega) hc)] at hun
      refine ⟨p + 1, S, hun, Nat.le_refl _, h3, h4, fun k _ hk => ?_, hX.rf⟩
      rw [show p + 1 - 1 = p by omega, hj] at hk
      cases hk; exact hc
    · rw [if_neg (nI_ngt (by omega) (by omega) (by omega))] at hun
      have w : hX [] [] [] [] [] [17] S (hpQ S 17 (p + 1) (some (g.xi j))) := hX.rf.pQ (by decide)
      obtain ⟨p', S', a1, a2, a3, a4, a5, a6⟩ := ih fu (hpQ S 17 (p + 1) (some (g.xi j))) (by omega) (by omega) h1 h2 (fun t k ht hk => by
        show up2 S.2.2.2.2.2.2 17 (p + 1) (some (g.xi j)) 17 t = _
        rw [up2_at, if_neg (by omega)]; exact h3 t k (by omega) hk) (fun t k ht hk => by
        show up2 S.2.2.2.2.2.2 17 (p + 1) (some (g.xi j)) 17 (t + 1) = _ ∧ _
        rw [up2_at]
        by_cases e : t = p
        · subst e
          rw [hj] at hk; cases hk
          rw [if_pos rfl]; exact ⟨rfl, by omega⟩
        · rw [if_neg (by omega)]; exact h4 t k (by omega) hk)
      exact ⟨p', S', hun.trans a1, by omega, a3, a4, a5, w.tr a6⟩
/-- other instructions, other turns -/
def Z.wIT (z : Z) (L : List Ins) (T : Nat) : Z := ((z.1.1, z.1.2.1, z.1.2.2.1, z.1.2.2.2.1, z.1.2.2.2.2.1, z.1.2.2.2.2.2.1, z.1.2.2.2.2.2.2.1, z.1.2.2.2.2.2.2.2.1, T, z.1.2.2.2.2.2.2.2.2.2), z.2.1, L)
theorem wIT_ins (z : Z) (L : List Ins) (T : Nat) : (z.wIT L T).ins = L := rfl
theorem wIT_turns (z : Z) (L : List Ins) (T : Nat) : (z.wIT L T).turns = T := rfl
theorem HT.wIT {S : hS} {z : Z} {ad : Nat → Option Nat} (h : HT S z ad) (L : List Ins) (T : Nat) : HT S (z.wIT L T) ad := ⟨fun P x q => ⟨(h.pos P x q).k, (h.pos P x q).lev, (h.pos P x q).fld, (h.pos P x q).flr, (h.pos P x q).day, (h.pos P x q).tow⟩, h.inr, h.inj, h.acc0, h.rom0⟩
theorem ins_at {α : Type} (q : List α) (p : Nat) (i : α) (hp : p ≤ q.length) {t : Nat} {j : α} (h : (q.take p ++ i :: q.drop p)[t]? = some j) : (t < p ∧ q[t]? = some j) ∨ (t = p ∧ j = i) ∨ (p < t ∧ q[t - 1]? = some j) := by
  have hl : (q.take p).length = p := by rw [List.length_take]; omega
  rw [List.getElem?_append, hl] at h
  by_cases c : t < p
  · rw [if_pos c, List.getElem?_take, if_pos c] at h
    exact Or.inl ⟨c, h⟩
  · rw [if_neg c] at h
    by_cases c2 : t = p
    · rw [c2, Nat.sub_self] at h
      cases h
      exact Or.inr (Or.inl ⟨c2, rfl⟩)
    · obtain ⟨m, hm⟩ : ∃ m, t - p = m + 1 := ⟨t - p - 1, by omega⟩
      rw [hm, List.getElem?_cons_succ, List.getElem?_drop] at h
      refine Or.inr (Or.inr ⟨by omega, ?_⟩)
      rw [show t - 1 = p + m by omega]; exact h
/-- what an instruction that comes must be -/
def CI (S : hS) (z : Z) (g : hG) (es : List (Ins × Bool)) (i : Ins) : Prop := (HE S z.mem (g.xi i) i) ∧ (S.2.1 700 (g.xi i) = nI i.who) ∧ (S.2.1 703 (g.xi i) = nI i.pr) ∧ (∃ ks, HN S g.ad z.fc (g.xi i) i ks) ∧ (∃ ws, HW S (g.xi i) i ws) ∧ (∀ j ∈ z.ins, g.xi i ≠ g.xi j) ∧ (∀ e ∈ es, g.xi e.1 ≠ g.xi i)
theorem CI.e {S : hS} {z : Z} {g : hG} {es : List (Ins × Bool)} {i : Ins} (h : CI S z g es i) : HE S z.mem (g.xi i) i := h.1
theorem CI.who {S : hS} {z : Z} {g : hG} {es : List (Ins × Bool)} {i : Ins} (h : CI S z g es i) : S.2.1 700 (g.xi i) = nI i.who := h.2.1
theorem CI.pr {S : hS} {z : Z} {g : hG} {es : List (Ins × Bool)} {i : Ins} (h : CI S z g es i) : S.2.1 703 (g.xi i) = nI i.pr := h.2.2.1
theorem CI.net {S : hS} {z : Z} {g : hG} {es : List (Ins × Bool)} {i : Ins} (h : CI S z g es i) : ∃ ks, HN S g.ad z.fc (g.xi i) i ks := h.2.2.2.1
theorem CI.awt {S : hS} {z : Z} {g : hG} {es : List (Ins × Bool)} {i : Ins} (h : CI S z g es i) : ∃ ws, HW S (g.xi i) i ws := h.2.2.2.2.1
theorem CI.ne {S : hS} {z : Z} {g : hG} {es : List (Ins × Bool)} {i : Ins} (h : CI S z g es i) : ∀ j ∈ z.ins, g.xi i ≠ g.xi j := h.2.2.2.2.2.1
theorem CI.ned {S : hS} {z : Z} {g : hG} {es : List (Ins × Bool)} {i : Ins} (h : CI S z g es i) : ∀ e ∈ es, g.xi e.1 ≠ g.xi i := h.2.2.2.2.2.2
set_option maxHeartbeats 1000000 in
/-- one comes to the queue -/
theorem h_comeW {n : Nat} {S : hS} {z : Z} {g : hG} {q u : List Ins} {L : Nat} {es : List (Ins × Bool)} (h : HZ S z g q u L es) (hO : okQ n z) {i : Ins} (hc : CI S z g es i) (hwt : i.wt = true) (h0 : S.2.1 707 (g.xi i) = 0) (hpr : i.pr < 10) (htn : ∀ j ∈ z.ins, j.tn < i.tn) (hl : z.ins.length + es.length < 250) {I' : List Ins} {T : Nat} (hI1 : ∀ j, j ∈ I' ↔ j ∈ z.ins ∨ j = i) (hI2 : (I'.filter fun j => !j.wt) = z.ins.filter fun j => !j.wt) (hI3 : I'.length = z.ins.length + 1) : ∃ S' q', h_Qu_come (g.xi i) S = some S' ∧ HZ S' (z.wIT I' T) g q' u L es ∧ hX [704, 1101] [] [] [] [] [17] S S' := by
  have hfix := h.B.fix
  have hql := isq_len hO h.Q.isq
  have hul := filt_len z.ins
  rw [← hql, ← h.Q.isu] at hul
  have qw : ∀ j ∈ q, j ∈ z.ins ∧ j.wt = true := fun j hj => (h.Q.isq.2 j).mp hj
  have w0 : hX [704, 1101] [] [] [] [] [17] S (hpI S 704 (g.xi i) 1) := hX.rf.pI (by decide)
  have p0 : ∀ y, (hpI S 704 (g.xi i) 1).2.1 703 y = S.2.1 703 y := fun y => by simp [hpI, up2]
  obtain ⟨p, S1, a1, a2, a3, a4, a5, a6⟩ := h_come_loop (g := g) (q := q) (x := g.xi i) (pr := i.pr) (by omega) hpr (fun j hj => by have := (hO.oki j (qw j hj).1).pr; omega) q.length 100000 (hpI S 704 (g.xi i) 1) (Nat.le_refl _) (by omega) ((p0 _).trans hc.pr) (fun j hj => (p0 _).trans (h.Q.ins j (qw j hj).1).pr) (fun t j _ hj => h.Q.q t j hj) (fun t j ht hj => by have := get_lt' hj; omega)
  have w1 : hX [704, 1101] [] [] [] [] [17] S S1 := w0.tr (a6.mono (by simp) (by simp) (by simp) (by simp) (by simp) (by simp))
  obtain ⟨S2, hS2⟩ : ∃ S2, S2 = hpI (hpQ S1 17 p (some (g.xi i))) 1101 16 (nI (q.length + 1)) := ⟨_, rfl⟩
  have w2 : hX [704, 1101] [] [] [] [] [17] S S2 := by rw [hS2]; exact (w1.pQ (by decide)).pI (by decide)
  have e704 : ∀ y, S2.2.1 704 y = if y = g.xi i then 1 else S.2.1 704 y := fun y => by
    have : S2.2.1 704 y = S1.2.1 704 y := by rw [hS2]; simp [hpI, hpQ, up2]
    rw [this, a6.ei _ (by simp)]
    show up2 S.2.1 704 (g.xi i) 1 704 y = _
    rw [up2_at]
  have e17 : ∀ t, S2.2.2.2.2.2.2 17 t = if t = p then some (g.xi i) else S1.2.2.2.2.2.2 17 t := fun t => by
    rw [hS2]
    show up2 S1.2.2.2.2.2.2 17 p (some (g.xi i)) 17 t = _
    rw [up2_at]
  have hq27 : ∀ k ∈ [17], hK S.1 k 27 := fun k hk => by
    have : k = 17 := by simpa using hk
    subst this
    exact ⟨250, fix_at hfix rfl⟩
  have hHI : ∀ j ∈ z.ins, HI S2 (z.wIT I' T) g.ad (g.xi j) j := fun j hj => by
    have hj0 := h.Q.ins j hj
    obtain ⟨kj, hkj⟩ := hj0.net
    exact (hj0.x w2 (by decide) (by rw [e704, if_neg (fun c => hc.ne j hj c.symm)]) (by simp) (by simp) ⟨by simp, fun c => absurd ((hq27 _ c).un hkj.kc) (by decide), by simp⟩).eqv rfl rfl
  have hsrt : (q.take p ++ i :: q.drop p).Pairwise ahd := by
    have hp := h.Q.isq.1
    have hp0 := hp
    rw [← List.take_append_drop p q] at hp0
    obtain ⟨s1, s2, s3⟩ := List.pairwise_append.mp hp0
    refine List.pairwise_append.mpr ⟨s1, List.pairwise_cons.mpr ⟨fun j hj => ?_, s2⟩, fun a ha b hb => ?_⟩
    · obtain ⟨t, ht⟩ := List.mem_iff_getElem?.mp hj
      rw [List.getElem?_drop] at ht
      exact Or.inl (a4 (p + t) j (by omega) ht).2
    · rcases List.mem_cons.mp hb with e | e
      · subst e
        have haq := List.mem_of_mem_take ha
        have hta := htn a (qw a haq).1
        have hle : a.pr ≤ b.pr := by
          obtain ⟨t, ht⟩ := List.mem_iff_getElem?.mp ha
          rw [List.getElem?_take] at ht
          by_cases htp : t < p
          · rw [if_pos htp] at ht
            obtain ⟨l, hl'⟩ := get_lt (ks := q) (j := p - 1) (by have := get_lt' ht; omega)
            have hlp := a5 l (by omega) hl'
            by_cases e2 : t = p - 1
            · rw [e2, hl'] at ht; cases ht; exact hlp
            · have hpp := List.pairwise_iff_getElem.mp hp
              obtain ⟨y1, y2⟩ := List.getElem?_eq_some_iff.mp ht
              obtain ⟨y3, y4⟩ := List.getElem?_eq_some_iff.mp hl'
              have := hpp t (p - 1) y1 y3 (by omega)
              rw [y2, y4] at this
              rcases this with w | w <;> omega
          · rw [if_neg htp] at ht; cases ht
        by_cases e3 : a.pr = b.pr
        · exact Or.inr ⟨e3, hta⟩
        · exact Or.inl (by omega)
      · exact s3 a ha b e
  have hmem : ∀ j, j ∈ q.take p ++ i :: q.drop p ↔ j ∈ q ∨ j = i := fun j => by
    rw [List.mem_append, List.mem_cons]
    have : j ∈ q ↔ j ∈ q.take p ∨ j ∈ q.drop p := by
      conv => lhs; rw [← List.take_append_drop p q]
      rw [List.mem_append]
    rw [this]
    constructor
    · rintro (w | w | w)
      · exact Or.inl (Or.inl w)
      · exact Or.inr w
      · exact Or.inl (Or.inr w)
    · rintro ((w | w) | w)
      · exact Or.inl w
      · exact Or.inr (Or.inr w)
      · exact Or.inr (Or.inl w)
  refine ⟨S2, q.take p ++ i :: q.drop p, ?_, ⟨h.B.x' w2 hq27 (by decide) (by simp) (by simp) rfl rfl rfl rfl ((w2.ei _ (by decide) _).trans h.B.lims) ((h.B.tab.x w2 (by decide) (by simp)).wIT I' T), ⟨?_, fun t j hj => ?_, (w2.ei _ (by decide) _).trans h.Q.us, fun t j hj => (w2.eq _ (by decide) _).trans (h.Q.u t j hj), fun j hj => ?_, fun a ha b hb e => ?_, ⟨hsrt, fun j => ?_⟩, by rw [wIT_ins, hI2]; exact h.Q.isu⟩, h.K.x w2 (by decide), ⟨(w2.ei _ (by decide) _).trans h.O.sz, fun j e he => ?_, fun e he j hj => ?_, ?_⟩⟩, w2⟩
  · unfold h_Qu_come h_Qu_isFull
    rw [h.Q.qs, h.Q.us, nI_add', if_pos (show nI (q.length + u.length) < 250 from (nI_lt' (a := q.length + u.length) (b := 250) (by omega) (by omega)).mpr (by omega)), Option.bind_some, if_pos rfl]
    unfold h_In_awaitsNobody
    rw [h0, if_neg (by decide), Option.bind_some, if_pos (by decide), a1, Option.bind_some]
    show ((am_ix (nI p) 250).bind fun j46 => some (hpI (hpQ S1 17 j46 (some (g.xi i))) 1101 16 (S1.2.1 1101 16 + 1))) = _
    have e1101 : S1.2.1 1101 16 = nI q.length := by
      rw [a6.ei _ (by simp), ← h.Q.qs]; simp [hpI, up2]
    rw [ix_N (by omega) (by omega), Option.bind_some, e1101, nI_add1, hS2]
  · rw [List.length_append, List.length_cons, List.length_take, List.length_drop, hS2, show min p q.length + (q.length - p + 1) = q.length + 1 by omega]
    simp [hpI, up2]
  · rw [e17]
    rcases ins_at q p i a2 hj with ⟨c1, c2⟩ | ⟨c1, c2⟩ | ⟨c1, c2⟩
    · rw [if_neg (by omega)]; exact a3 t j c1 c2
    · rw [if_pos c1, c2]
    · rw [if_neg (by omega)]
      have := (a4 (t - 1) j (by omega) c2).1
      rw [show t - 1 + 1 = t by omega] at this
      exact this
  · rcases (hI1 j).mp hj with c | c
    · exact hHI j c
    · subst c
      obtain ⟨ks, hN⟩ := hc.net
      obtain ⟨ws, hW⟩ := hc.awt
      exact ⟨hc.e.x w2 (by decide) (by simp), (w2.ei _ (by decide) _).trans hc.who, (w2.ei _ (by decide) _).trans hc.pr, by rw [e704, if_pos rfl, hwt]; rfl, ⟨ks, hN.x w2 (by decide) (by simp) (fun c => absurd ((hq27 _ c).un hN.kc) (by decide)) (by simp)⟩, ⟨ws, hW.x w2 (by decide) (by simp) (by simp)⟩⟩
  · rcases (hI1 a).mp ha with c | c <;> rcases (hI1 b).mp hb with d | d
    · exact h.Q.inj a c b d e
    · subst d; exact absurd e.symm (hc.ne a c)
    · subst c; exact absurd e (hc.ne b d)
    · rw [c, d]; exact ⟨rfl, rfl⟩
  · rw [hmem, wIT_ins, hI1]
    constructor
    · rintro (w | w)
      · exact ⟨Or.inl (qw j w).1, (qw j w).2⟩
      · rw [w]; exact ⟨Or.inr rfl, hwt⟩
    · rintro ⟨w | w, w2⟩
      · exact Or.inl ((h.Q.isq.2 j).mpr ⟨w, w2⟩)
      · exact Or.inr w
  · obtain ⟨r1, r2, r3⟩ := h.O.row j e he
    exact ⟨(w2.eq _ (by decide) _).trans r1, by rw [e704, if_neg (hc.ned e (List.mem_of_getElem? he))]; exact r2, r3.x w2 (by decide) (by simp)⟩
  · rcases (hI1 j).mp hj with c | c
    · exact h.O.dj e he j c
    · rw [c]; exact hc.ned e he
  · rw [wIT_ins, hI3]; omega
