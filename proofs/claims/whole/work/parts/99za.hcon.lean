/-! The class: another priority; confirming. -/
theorem wt_nil {S : hS} {x : Nat} {i : Ins} {ws : List Nat} (hW : HW S x i ws) (h : i.wt = true) : ws = [] := List.eq_nil_iff_forall_not_mem.mpr fun v hv => by
  obtain ⟨⟨l, hl1, hl2⟩, h2⟩ := (hW.mem v).mp hv
  have := List.all_eq_true.mp h l hl1
  rw [hl2] at this
  exact h2 (by simpa using this)
theorem wt_pos {S : hS} {x : Nat} {i : Ins} {ws : List Nat} (hW : HW S x i ws) (h : i.wt = false) : 0 < ws.length := by
  obtain ⟨l, hl1, hl2⟩ := List.all_eq_false.mp h
  have hmem : l.f ∈ ws := (hW.mem l.f).mpr ⟨⟨l, hl1, rfl⟩, fun c => hl2 (by simpa using c)⟩
  exact List.length_pos_of_mem hmem
theorem del_ne {S : hS} {z : Z} {g : hG} {q u : List Ins} {L : Nat} {es : List (Ins × Bool)} (h : HZ S z g q u L es) {i : Ins} (hi : i ∈ z.ins) : ∀ j ∈ (z.del i).ins, g.xi j ≠ g.xi i := fun j hj c => by
  have hm := List.mem_filter.mp (show j ∈ z.ins.filter fun j => !(sameK i j) from hj)
  have := sameK_iff.mpr (h.Q.inj i hi j hm.1 c.symm)
  rw [this] at hm
  cases hm.2
theorem h_putW {n : Nat} {S : hS} {z : Z} {g : hG} {q u : List Ins} {L : Nat} (h : HZ S z g q u L []) (hO : okZ n z) {i : Ins} (hi : i ∈ z.ins) (hwt : i.wt = true) {pr tn : Nat} (hpr : pr < 10) (htn : ∀ j ∈ z.ins, j.tn < tn) (Tn : Nat) : ∃ S' q', h_De_putBehind (some (g.xi i)) (nI pr) S = some S' ∧ HZ S' (z.wIT (repL (mkIns i.who i.nm pr tn i.legs i.ag) z.ins) Tn) g q' (u.filter fun j => !(sameK i j)) L [] ∧ hX [703, 704, 1101, 1103] [] [] [] [] [17, 18] S S' := by
  have hI := h.Q.ins i hi
  obtain ⟨ks, hN⟩ := hI.net
  obtain ⟨ws, hW⟩ := hI.awt
  have hws := wt_nil hW hwt
  subst hws
  have w : hX [703] [] [] [] [] [] S (hpI S 703 (g.xi i) (nI pr)) := hX.rf.pI (by decide)
  obtain ⟨S', q', a1, a2, a3⟩ := h_again (T := hpI S 703 (g.xi i) (nI pr)) (i' := mkIns i.who i.nm pr tn i.legs i.ag) (f := fun S2 => hpI S2 703 (g.xi i) (nI pr)) h hO hi rfl rfl hwt hpr htn (lv_pI S (by decide) (by decide) (by decide)) (fun S2 q2 u2 h2 => h2.pI (Or.inl rfl) (del_ne h hi)) (fun S2 w2 => w2.cI _ _ _) h.B.fix (hI.e.x w (by decide) (by simp)) ((w.ei _ (by decide) _).trans hI.who) (by simp [hpI, up2]; rfl) (ks := ks) (hN.x w (by decide) (by simp) (by simp) (by simp)) (hW.x w (by decide) (by simp) (by simp)) Tn
  refine ⟨S', q', ?_, a2, (w.mono (by simp) (by simp) (by simp) (by simp) (by simp) (by simp)).tr (a3.mono (by simp) (by simp) (by simp) (by simp) (by simp) (by simp))⟩
  unfold h_De_putBehind
  rw [if_neg (by simp), Option.bind_some, hI.st, hwt, if_neg (by decide)]
  obtain ⟨r, hr1, hr2⟩ := Option.bind_eq_some_iff.mp a1
  rw [hr1, Option.bind_some, hr2, Option.bind_some]
theorem h_putU {n : Nat} {S : hS} {z : Z} {g : hG} {q u : List Ins} {L : Nat} (h : HZ S z g q u L []) (hO : okZ n z) {i : Ins} (hi : i ∈ z.ins) (hwt : i.wt = false) {pr : Nat} : h_De_putBehind (some (g.xi i)) (nI pr) S = some (hpI S 703 (g.xi i) (nI pr)) ∧ HZ (hpI S 703 (g.xi i) (nI pr)) (z.wIns (repL (mkIns i.who i.nm pr i.tn i.legs i.ag) z.ins)) g q (repL (mkIns i.who i.nm pr i.tn i.legs i.ag) u) L [] := by
  have hI := h.Q.ins i hi
  obtain ⟨ks, hN⟩ := hI.net
  obtain ⟨ws, hW⟩ := hI.awt
  have w : hX [703] [] [] [] [] [] S (hpI S 703 (g.xi i) (nI pr)) := hX.rf.pI (by decide)
  refine ⟨?_, h.rep hO hi rfl rfl hwt hwt (w.mono (by simp) (by simp) (by simp) (by simp) (by simp) (by simp)) ⟨hI.e.x w (by decide) (by simp), (w.ei _ (by decide) _).trans hI.who, ?_, ?_, ⟨ks, hN.x w (by decide) (by simp) (by simp) (by simp)⟩, ⟨ws, hW.x w (by decide) (by simp) (by simp)⟩⟩ (fun j hj hne => (h.Q.ins j hj).pI hne)⟩
  · unfold h_De_putBehind
    rw [if_neg (by simp), Option.bind_some, hI.st, hwt, if_pos (by decide)]
  · simp [hpI, up2]; rfl
  · rw [w.ei _ (by decide), hI.st]; rfl
theorem h_cnf {n : Nat} {S : hS} {z : Z} {g : hG} {q u : List Ins} {L : Nat} (h : HZ S z g q u L []) (hO : okZ n z) {i : Ins} (hi : i ∈ z.ins) {p : Nat} (hp : p < 256) (hpl : ∃ l ∈ i.legs, l.f = p) (hpa : p ∉ i.ag) : ∃ T ws', h_In_confirmBy (g.xi i) (nI p) S = some T ∧ HW T (g.xi i) (i.cnf p) ws' ∧ hX [707] [] [] [g.xi i + 1] [] [] S T ∧ ∃ t v v', T = hpA (hpI S 707 (g.xi i) v) (g.xi i + 1) t v' := by
  obtain ⟨ws, hW⟩ := (h.Q.ins i hi).awt
  have hk := hO.oki i hi
  have hle := hW.le
  have hln := hk.len.2
  have hm := hO.mem.2
  obtain ⟨T, ws', a1, a2, a3, a4, a5, a6⟩ := h_confirm_loop hW hln hp (fun v hv => by
    obtain ⟨⟨l, hl1, hl2⟩, _⟩ := (hW.mem v).mp hv
    have := (hk.lg l hl1).f
    omega) _ 100000 0 rfl (by omega) (by omega) (by simp) ((hW.mem p).mpr ⟨hpl, hpa⟩)
  exact ⟨T, ws', a1, a2, a4, a6⟩
/-- it is confirmed by all -/
theorem h_confirmW {n : Nat} {S : hS} {z : Z} {g : hG} {q u : List Ins} {L : Nat} (h : HZ S z g q u L []) (hO : okZ n z) {i : Ins} {w : Nat} {nm : List Nat} (hop : z.opn w nm = some i) (hw : w < 256) (hn : nm.length = 8) (h36 : is36 nm) (e5 : S.2.2.2.2.1 5 0 = nI w) (e818 : S.2.2.1 818 2 = lI (b36 nm : Nat)) {p : Nat} (e813 : S.2.1 813 2 = nI p) (hp : p < 256) (hpl : ∃ l ∈ i.legs, l.f = p) (hpa : p ∉ i.ag) (hwt : (i.cnf p).wt = true) {tn : Nat} (htn : ∀ j ∈ z.ins, j.tn < tn) (Tn : Nat) : ∃ S' q', h_De_confirm S = some (some (g.xi i), S') ∧ HZ S' (z.wIT (repL (mkIns i.who i.nm i.pr tn i.legs (i.ag ++ [p])) z.ins) Tn) g q' (u.filter fun j => !(sameK i j)) L [] ∧ hX [704, 707, 1101, 1103] [] [] [g.xi i + 1] [] [17, 18] S S' := by
  obtain ⟨hi, _, _⟩ := opn_some hop
  have hI := h.Q.ins i hi
  have hk := hO.oki i hi
  obtain ⟨ks, hN⟩ := hI.net
  obtain ⟨T, ws', a1, a2, a3, t, v, v', a4⟩ := h_cnf h hO hi hp hpl hpa
  have hws := wt_nil a2 hwt
  subst hws
  have hx : ∀ j ∈ (z.del i).ins, g.xi j ≠ g.xi i := del_ne h hi
  obtain ⟨S', q', b1, b2, b3⟩ := h_again (T := T) (i' := mkIns i.who i.nm i.pr tn i.legs (i.ag ++ [p])) (f := fun S2 => hpA (hpI S2 707 (g.xi i) v) (g.xi i + 1) t v') h hO hi rfl rfl hwt (show i.pr < 10 by have := hk.pr; omega) htn (by
    rw [a4, lv_pA, lv_pI S (by decide) (by decide) (by decide), Option.map_map]; rfl) (fun S2 q2 u2 h2 => (h2.pI (Or.inr rfl) hx).pA hx) (fun S2 w2 => by rw [a4]; exact (w2.cI _ _ _).cA _ _ _) (by rw [a3.sh]; exact h.B.fix) (hI.e.x a3 (by decide) (by simp)) ((a3.ei _ (by decide) _).trans hI.who) ((a3.ei _ (by decide) _).trans hI.pr) (ks := ks) (hN.x a3 (by decide) (by simp) (by simp) (by simp)) a2 Tn
  refine ⟨S', q', ?_, b2, (a3.mono (by simp) (by simp) (by simp) (by simp) (by simp) (by simp)).tr (b3.mono (by simp) (by simp) (by simp) (by simp) (by simp) (by simp))⟩
  obtain ⟨r, hr1, hr2⟩ := Option.bind_eq_some_iff.mp b1
  unfold h_De_confirm
  rw [show am_ix 0 12 = some 0 from by decide, Option.bind_some, e5, e818, h_find h.B h.Q hO hw hn h36, hop, Option.bind_some, if_neg (by simp), Option.map_some, Option.bind_some, e813, a1, Option.bind_some]
  unfold h_In_awaitsNobody
  rw [a2.sz, if_neg (by decide), Option.bind_some, if_neg (by decide), hr1, Option.bind_some, hr2, Option.bind_some, Option.bind_some]
/-- it still awaits some -/
theorem h_confirmU {n : Nat} {S : hS} {z : Z} {g : hG} {q u : List Ins} {L : Nat} (h : HZ S z g q u L []) (hO : okZ n z) {i : Ins} {w : Nat} {nm : List Nat} (hop : z.opn w nm = some i) (hw : w < 256) (hn : nm.length = 8) (h36 : is36 nm) (e5 : S.2.2.2.2.1 5 0 = nI w) (e818 : S.2.2.1 818 2 = lI (b36 nm : Nat)) {p : Nat} (e813 : S.2.1 813 2 = nI p) (hp : p < 256) (hpl : ∃ l ∈ i.legs, l.f = p) (hpa : p ∉ i.ag) (hwt : (i.cnf p).wt = false) : ∃ S', h_De_confirm S = some (some (g.xi i), S') ∧ HZ S' (z.wIns (repL (i.cnf p) z.ins)) g q (repL (i.cnf p) u) L [] ∧ hX [707] [] [] [g.xi i + 1] [] [] S S' := by
  obtain ⟨hi, _, _⟩ := opn_some hop
  have hI := h.Q.ins i hi
  have hk := hO.oki i hi
  obtain ⟨ks, hN⟩ := hI.net
  obtain ⟨ws, hW⟩ := hI.awt
  have hwi : i.wt = false := by
    cases c : i.wt with
    | false => rfl
    | true =>
      exfalso
      obtain ⟨l, hl1, hl2⟩ := hpl
      have := List.all_eq_true.mp c l hl1
      rw [hl2] at this
      exact hpa (by simpa using this)
  obtain ⟨T, ws', a1, a2, a3, t, v, v', a4⟩ := h_cnf h hO hi hp hpl hpa
  have hpos := wt_pos a2 hwt
  have hle : ws'.length ≤ i.legs.length := a2.le
  have hln := hk.len.2
  refine ⟨T, ?_, h.rep hO hi rfl rfl hwi hwt (a3.mono (by simp) (by simp) (by simp) (by simp) (by simp) (by simp)) ⟨hI.e.x a3 (by decide) (by simp), (a3.ei _ (by decide) _).trans hI.who, (a3.ei _ (by decide) _).trans hI.pr, ?_, ⟨ks, hN.x a3 (by decide) (by simp) (by simp) (by simp)⟩, ⟨ws', a2⟩⟩ (fun j hj hne => ?_), a3⟩
  · unfold h_De_confirm
    rw [show am_ix 0 12 = some 0 from by decide, Option.bind_some, e5, e818, h_find h.B h.Q hO hw hn h36, hop, Option.bind_some, if_neg (by simp), Option.map_some, Option.bind_some, e813, a1, Option.bind_some]
    unfold h_In_awaitsNobody
    rw [a2.sz, if_pos (nI_ne0 (by omega) (by omega)), Option.bind_some, if_pos (by decide), Option.bind_some]
  · rw [a3.ei _ (by decide), hI.st, hwi, hwt]
  · rw [a4]; exact ((h.Q.ins j hj).pI hne).pA hne
