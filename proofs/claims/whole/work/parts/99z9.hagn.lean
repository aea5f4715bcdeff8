/-! The class: an instruction comes again. -/
theorem hX.cI {ki kl kr ka kb kq : List Nat} {S S' : hS} (w : hX ki kl kr ka kb kq S S') (k a : Nat) (v : Int32) : hX ki kl kr ka kb kq (hpI S k a v) (hpI S' k a v) := ⟨w.sh, fun k' hk => by
  funext b
  have := w.ei k' hk
  show up2 S'.2.1 k a v k' b = up2 S.2.1 k a v k' b
  by_cases c : k' = k ∧ b = a
  · rw [c.1, c.2, up2_eq, up2_eq]
  · rw [up2_ne c, up2_ne c, this], w.2.2⟩
theorem hX.cA {ki kl kr ka kb kq : List Nat} {S S' : hS} (w : hX ki kl kr ka kb kq S S') (a t : Nat) (v : Int32) : hX ki kl kr ka kb kq (hpA S a t v) (hpA S' a t v) := ⟨w.sh, w.2.1, w.2.2.1, w.2.2.2.1, fun k' hk => by
  funext b
  have := w.ea k' hk
  show up2 S'.2.2.2.2.1 a t v k' b = up2 S.2.2.2.2.1 a t v k' b
  by_cases c : k' = a ∧ b = t
  · rw [c.1, c.2, up2_eq, up2_eq]
  · rw [up2_ne c, up2_ne c, this], w.2.2.2.2.2⟩
theorem okQ.del {n : Nat} {z : Z} (h : okQ n z) (i : Ins) : okQ n (z.del i) := by
  have hm : ∀ j ∈ (z.del i).ins, j ∈ z.ins := fun j hj => (List.mem_filter.mp (show j ∈ z.ins.filter fun j => !(sameK i j) from hj)).1
  exact ⟨Nat.le_trans (List.length_filter_le _ _) h.len, fun j hj => h.oki j (hm j hj), h.tns.filter _, h.unq.filter _, h.turns⟩
set_option maxHeartbeats 1000000 in
/-- one leaves, and comes again as i' -/
theorem h_again {n : Nat} {S T : hS} {z : Z} {g : hG} {q u : List Ins} {L : Nat} (h : HZ S z g q u L []) (hO : okZ n z) {i i' : Ins} (hi : i ∈ z.ins) (h1 : i'.who = i.who) (h2 : i'.nm = i.nm) (hwt : i'.wt = true) (hpr : i'.pr < 10) (htn : ∀ j ∈ z.ins, j.tn < i'.tn) {f : hS → hS} (hcm : h_Qu_leave (some (g.xi i)) T = (h_Qu_leave (some (g.xi i)) S).map f) (hf : ∀ (S2 : hS) (q2 u2 : List Ins), HZ S2 (z.del i) g q2 u2 L [] → HZ (f S2) (z.del i) g q2 u2 L []) (hfr : ∀ S2, hX [1101, 1103] [] [] [] [] [17, 18] S S2 → hX [1101, 1103] [] [] [] [] [17, 18] T (f S2)) (hsh : hE hs_fix T.1) (e : HE T z.mem (g.xi i) i') (ew : T.2.1 700 (g.xi i) = nI i'.who) (ep : T.2.1 703 (g.xi i) = nI i'.pr) {ks : List Nat} (en : HN T g.ad z.fc (g.xi i) i' ks) (ea : HW T (g.xi i) i' []) (Tn : Nat) : ∃ S' q', ((h_Qu_leave (some (g.xi i)) T).bind fun r => h_Qu_come (g.xi i) r) = some S' ∧ HZ S' (z.wIT (repL i' z.ins) Tn) g q' (u.filter fun j => !(sameK i j)) L [] ∧ hX [704, 1101, 1103] [] [] [] [] [17, 18] T S' := by
  obtain ⟨S2, a1, a2, a3⟩ := h_leaveQ h hO hi
  have b2 := hf S2 _ _ a2
  have w := hfr S2 a3
  have hx : g.xi i' = g.xi i := by unfold hG.xi; rw [h1, h2]
  have hmem : ∀ j ∈ (z.del i).ins, j ∈ z.ins ∧ sameK i j = false := fun j hj => by
    have := List.mem_filter.mp (show j ∈ z.ins.filter fun j => !(sameK i j) from hj)
    exact ⟨this.1, by simpa using this.2⟩
  have q27 : ∀ k ∈ [17, 18], hK T.1 k 27 := by
    intro k hk
    have : k = 17 ∨ k = 18 := by simpa using hk
    rcases this with rfl | rfl
    · exact ⟨250, fix_at hsh rfl⟩
    · exact ⟨250, fix_at hsh rfl⟩
  have hCI : CI (f S2) (z.del i) g [] i' := by
    unfold CI
    rw [hx]
    refine ⟨e.x w (by decide) (by simp), (w.ei _ (by decide) _).trans ew, (w.ei _ (by decide) _).trans ep, ⟨ks, en.x w (by decide) (by simp) (fun c => absurd ((q27 _ c).un en.kc) (by decide)) (by simp)⟩, ⟨[], ea.x w (by decide) (by simp) (by simp)⟩, fun j hj c => ?_, by simp⟩
    obtain ⟨c1, c2⟩ := hmem j hj
    have := sameK_iff.mpr (h.Q.inj i hi j c1 c)
    rw [c2] at this; cases this
  have hdl := del_len1 hO.unq hi
  have hzl := hO.ins
  have h707 : (f S2).2.1 707 (g.xi i') = 0 := by
    rw [hx, w.ei _ (by decide), ea.sz]; rfl
  obtain ⟨S', q', c1, c2, c3⟩ := h_comeW b2 (hO.q.del i) hCI hwt h707 hpr (fun j hj => htn j (hmem j hj).1) (by show (z.ins.filter fun j => !(sameK i j)).length + 0 < 250; omega) (I' := repL i' z.ins) (T := Tn) (fun j => rep_mem h1 h2 hi j) (rep_filt h1 h2 hwt z.ins) (by rw [rep_len]; exact hdl.symm)
  rw [hx] at c1
  refine ⟨S', q', ?_, c2, (w.mono (by simp) (by simp) (by simp) (by simp) (by simp) (by simp)).tr (c3.mono (by simp) (by simp) (by simp) (by simp) (by simp) (by simp))⟩
  rw [hcm, a1]; exact c1
/-- one is replaced where it lies: it is to be confirmed before and after -/
theorem HZ.rep {n : Nat} {S S' : hS} {z : Z} {g : hG} {q u : List Ins} {L : Nat} (h : HZ S z g q u L []) (hO : okZ n z) {i i' : Ins} (hi : i ∈ z.ins) (h1 : i'.who = i.who) (h2 : i'.nm = i.nm) (hw : i.wt = false) (hw' : i'.wt = false) (w : hX [703, 707] [] [] [g.xi i + 1] [] [] S S') (hI' : HI S' z g.ad (g.xi i) i') (hoth : ∀ j ∈ z.ins, g.xi j ≠ g.xi i → HI S' z g.ad (g.xi j) j) : HZ S' (z.wIns (repL i' z.ins)) g q (repL i' u) L [] := by
  have hx : g.xi i' = g.xi i := by unfold hG.xi; rw [h1, h2]
  have org : ∀ j ∈ repL i' z.ins, ∃ a ∈ z.ins, g.xi j = g.xi a ∧ j.who = a.who ∧ j.nm = a.nm := fun j hj => by
    rcases (rep_mem h1 h2 hi j).mp hj with c | c
    · exact ⟨j, (List.mem_filter.mp c).1, rfl, rfl, rfl⟩
    · exact ⟨i, hi, by rw [c, hx], by rw [c, h1], by rw [c, h2]⟩
  have hs0 : ∀ a ∈ z.ins, sameK i a = true → a = i := fun a ha hs => by
    obtain ⟨c1, c2⟩ := sameK_iff.mp hs
    exact (ins_eq hO.unq hi ha c1 c2).symm
  refine ⟨h.B.xk w (by simp) (by decide) (by decide) rfl rfl |>.x (hX.rf (S := S')) (ki := []) (kl := []) (kr := []) (ka := []) (kb := []) (kq := []) (by simp) (by simp) (by simp) (by simp) rfl ((h.B.xk w (by simp) (by decide) (by decide) rfl rfl).tab.wIns _), ⟨(w.ei _ (by decide) _).trans h.Q.qs, fun t j hj => (w.eq _ (by simp) _).trans (h.Q.q t j hj), ?_, fun t j hj => ?_, fun j hj => ?_, fun a ha b hb c => ?_, ⟨h.Q.isq.1, fun j => ?_⟩, ?_⟩, h.K.x w (by decide), ⟨(w.ei _ (by decide) _).trans h.O.sz, fun t e he => by simp at he, fun e he => by simp at he, ?_⟩⟩
  · rw [rep_len]; exact (w.ei _ (by decide) _).trans h.Q.us
  · unfold repL at hj
    rw [List.getElem?_map] at hj
    cases hu : u[t]? with
    | none => rw [hu] at hj; cases hj
    | some a =>
      rw [hu, Option.map_some] at hj
      have e : (if sameK i' a then i' else a) = j := Option.some.inj hj
      rw [w.eq _ (by simp), h.Q.u t a hu, ← e]
      cases hs : sameK i' a with
      | true =>
        rw [if_pos rfl]
        obtain ⟨c1, c2⟩ := sameK_iff.mp hs
        unfold hG.xi; rw [c1, c2]
      | false => rw [if_neg (by decide)]
  · rcases (rep_mem h1 h2 hi j).mp hj with c | c
    · rw [List.mem_filter] at c
      refine (hoth j c.1 (fun q => ?_)).eqv rfl rfl
      have := h.Q.inj i hi j c.1 q.symm
      rw [sameK_iff.mpr this] at c
      cases c.2
    · rw [c, hx]; exact hI'.eqv rfl rfl
  · obtain ⟨a0, p1, p2, p3, p4⟩ := org a ha
    obtain ⟨b0, r1, r2, r3, r4⟩ := org b hb
    rw [p2, r2] at c
    have := h.Q.inj a0 p1 b0 r1 c
    exact ⟨by rw [p3, r3]; exact this.1, by rw [p4, r4]; exact this.2⟩
  · rw [h.Q.isq.2]
    show _ ↔ j ∈ repL i' z.ins ∧ _
    rw [rep_mem h1 h2 hi, List.mem_filter]
    constructor
    · rintro ⟨c1, c2⟩
      refine ⟨Or.inl ⟨c1, ?_⟩, c2⟩
      cases hs : sameK i j with
      | false => rfl
      | true => rw [hs0 j c1 hs, hw] at c2; cases c2
    · rintro ⟨c1 | c1, c2⟩
      · exact ⟨c1.1, c2⟩
      · rw [c1, hw'] at c2; cases c2
  · rw [h.Q.isu]
    show repL i' (z.ins.filter _) = (repL i' z.ins).filter _
    have : ∀ a ∈ z.ins, sameK i' a = true → a.wt = false := fun a ha hs => by
      rw [sameK_of h1 h2] at hs
      rw [hs0 a ha hs]; exact hw
    revert this
    generalize z.ins = K
    intro this
    induction K with
    | nil => rfl
    | cons a K ih =>
      have IH := ih (fun b hb => this b (List.mem_cons_of_mem _ hb))
      have e : ∀ M, repL i' (a :: M) = (if sameK i' a then i' else a) :: repL i' M := fun _ => rfl
      rw [e]
      cases hs : sameK i' a with
      | true =>
        rw [if_pos rfl, List.filter_cons_of_pos (by rw [this a List.mem_cons_self hs]; rfl), e, hs, if_pos rfl, List.filter_cons_of_pos (by rw [hw']; rfl), IH]
      | false =>
        rw [if_neg (by decide)]
        cases ha : a.wt with
        | true => rw [List.filter_cons_of_neg (by rw [ha]; decide), List.filter_cons_of_neg (by rw [ha]; decide), IH]
        | false => rw [List.filter_cons_of_pos (by rw [ha]; rfl), List.filter_cons_of_pos (by rw [ha]; rfl), e, hs, if_neg (by decide), IH]
  · show 0 + (repL i' z.ins).length ≤ 250
    rw [rep_len]; have := hO.ins; omega
