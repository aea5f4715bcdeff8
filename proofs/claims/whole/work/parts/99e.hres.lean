/-! The class's resolving: the greatest set. -/
/-- the books and the queue, as they stand during a trial -/
def HR (S : hS) (z : Z) (g : hG) (q u : List Ins) : Prop := (HB S z g) ∧ (HQ S z g q u)
theorem HR.B {S : hS} {z : Z} {g : hG} {q u : List Ins} (h : HR S z g q u) : HB S z g := h.1
theorem HR.Q {S : hS} {z : Z} {g : hG} {q u : List Ins} (h : HR S z g q u) : HQ S z g q u := h.2
theorem HR.x {ki kl : List Nat} {S S' : hS} {z : Z} {g : hG} {q u : List Ins} (h : HR S z g q u) (w : hX ki kl [] [] [] [] S S') (h1 : ki = [705] ∨ ki = [705, 1008] ∨ ki = [] ∨ ki = [1008] ∨ ki = [1106] ∨ ki = [705, 1008, 1106]) (h2 : kl = [1009] ∨ kl = []) : HR S' z g q u := by
  have w' : hX [705, 1008, 1106] [1009] [] [] [] [] S S' := by
    refine w.mono ?_ ?_ (by simp) (by simp) (by simp) (by simp)
    · rcases h1 with rfl | rfl | rfl | rfl | rfl | rfl <;> simp
    · rcases h2 with rfl | rfl <;> simp
  exact ⟨h.B.x w' (by simp) (by decide) (by decide) (by simp) rfl (h.B.tab.x w' (by decide) (by decide)), h.Q.x w' (by decide) (by decide) (by simp) rfl rfl rfl⟩
theorem HR.i {n : Nat} {S : hS} {z : Z} {g : hG} {q u : List Ins} (h : HR S z g q u) (hO : okZ n z) {j : Nat} {i : Ins} (hj : q[j]? = some i) : i ∈ z.ins ∧ okN z 0 i ∧ ∃ ks, HN S g.ad z.fc (g.xi i) i ks := by
  have hiz : i ∈ z.ins := ((h.Q.isq.2 i).mp (List.mem_of_getElem? hj)).1
  exact ⟨hiz, (hO.oki i hiz).n, (h.Q.ins i hiz).net⟩
theorem HQ.xne {n : Nat} {S : hS} {z : Z} {g : hG} {q u : List Ins} (h : HQ S z g q u) (hO : okZ n z) {i j : Ins} (hi : i ∈ q) (hj : j ∈ q) (hne : i ≠ j) : g.xi i ≠ g.xi j := fun c => by
  have hi' := ((h.isq.2 i).mp hi).1
  have hj' := ((h.isq.2 j).mp hj).1
  obtain ⟨a, b⟩ := h.inj i hi' j hj' c
  exact hne (ins_eq hO.unq hi' hj' a b)
theorem h_res2 {n : Nat} {z : Z} {g : hG} {q u : List Ins} (hO : okZ n z) (hq : q.length ≤ 250) : ∀ (d fu j : Nat) (S : hS), HR S z g q u → (∀ i ∈ q.take j, S.2.1 705 (g.xi i) = 1) → (∀ P y, (∃ i ∈ q.take j, P ∈ i.pls z.fc) → g.ad P = some y → S.2.2.1 1009 y = lI (z.lev P)) → q.length - j = d → d < fu → j ≤ q.length → ∃ S', hl_Qu_resolve_2 fu (nI j) S = some S' ∧ (∀ i ∈ q, S'.2.1 705 (g.xi i) = 1) ∧ (∀ P y, (∃ i ∈ q, P ∈ i.pls z.fc) → g.ad P = some y → S'.2.2.1 1009 y = lI (z.lev P)) ∧ hX [705] [1009] [] [] [] [] S S' := by
  intro d
  induction d with
  | zero =>
    intro fu j S hR h1 h2 hd hf hj
    obtain ⟨fu, rfl⟩ : ∃ f, fu = f + 1 := ⟨fu - 1, by omega⟩
    rw [List.take_of_length_le (by omega)] at h1 h2
    refine ⟨S, ?_, h1, h2, hX.rf⟩
    unfold hl_Qu_resolve_2
    rw [hR.Q.qs, if_pos (nI_le0 (by omega) (by omega) (by omega))]
  | succ d ih =>
    intro fu j S hR h1 h2 hd hf hj
    obtain ⟨fu, rfl⟩ : ∃ f, fu = f + 1 := ⟨fu - 1, by omega⟩
    obtain ⟨i, hi⟩ := get_lt (ks := q) (j := j) (by omega)
    obtain ⟨hiz, hok, ks, hN⟩ := hR.i hO hi
    obtain ⟨S1, a1, a2, a3, a4, a5⟩ := h_begin hok hN hR.B.tab
    have hmem : ∀ k, k ∈ q.take (j + 1) → k ∈ q.take j ∨ k = i := fun k hk => by
      rw [take_snoc hi, List.mem_append, List.mem_singleton] at hk; exact hk
    obtain ⟨S', b1, b2, b3, b4⟩ := ih fu (j + 1) S1 (hR.x a2 (by simp) (by simp)) (fun k hk => by
      by_cases hki : k = i
      · rw [hki]; exact a3
      · rcases hmem k hk with c | c
        · rw [a4 _ (hR.Q.xne hO (List.mem_of_mem_take c) (List.mem_of_getElem? hi) hki)]; exact h1 k c
        · exact absurd c hki) (fun P y hP hy => by
      rw [a5 P y hy]
      by_cases hpi : P ∈ i.pls z.fc
      · rw [if_pos hpi]
      · rw [if_neg hpi]
        obtain ⟨k, hk, hkp⟩ := hP
        rcases hmem k hk with c | c
        · exact h2 P y ⟨k, c, hkp⟩ hy
        · rw [c] at hkp; exact absurd hkp hpi) (by omega) (by omega) (by omega)
    refine ⟨S', ?_, b2, b3, a2.tr b4⟩
    unfold hl_Qu_resolve_2
    rw [hR.Q.qs, if_neg (nI_ngt (by omega) (by omega) (by omega)), ix_N (by omega) (by omega), Option.bind_some, hR.Q.q j i hi, Option.bind_some, a1, Option.bind_some, nI_add1, b1]
theorem h_res27 {n : Nat} {z : Z} {g : hG} {q u : List Ins} (hO : okZ n z) (hq : q.length ≤ 250) : ∀ (d fu j : Nat) (S : hS), HR S z g q u → (∀ P y, (∃ i ∈ q, P ∈ i.pls z.fc) → g.ad P = some y → S.2.2.1 1009 y = lI (z.lev P + sumC z.fc (fun _ => true) P (q.take j))) → q.length - j = d → d < fu → j ≤ q.length → ∃ S', hl_Qu_resolve_27 fu (nI j) S = some S' ∧ (∀ P y, (∃ i ∈ q, P ∈ i.pls z.fc) → g.ad P = some y → S'.2.2.1 1009 y = lI (z.lev P + sumC z.fc (fun _ => true) P q)) ∧ hX [] [1009] [] [] [] [] S S' := by
  intro d
  induction d with
  | zero =>
    intro fu j S hR h2 hd hf hj
    obtain ⟨fu, rfl⟩ : ∃ f, fu = f + 1 := ⟨fu - 1, by omega⟩
    rw [List.take_of_length_le (by omega)] at h2
    refine ⟨S, ?_, h2, hX.rf⟩
    unfold hl_Qu_resolve_27
    rw [hR.Q.qs, if_pos (nI_le0 (by omega) (by omega) (by omega))]
  | succ d ih =>
    intro fu j S hR h2 hd hf hj
    obtain ⟨fu, rfl⟩ : ∃ f, fu = f + 1 := ⟨fu - 1, by omega⟩
    obtain ⟨i, hi⟩ := get_lt (ks := q) (j := j) (by omega)
    obtain ⟨hiz, hok, ks, hN⟩ := hR.i hO hi
    obtain ⟨S1, a1, a2, a5⟩ := h_join hok hN hR.B.tab
    obtain ⟨S', b1, b3, b4⟩ := ih fu (j + 1) S1 (hR.x a2 (by simp) (by simp)) (fun P y hP hy => by
      rw [a5 P y hy, h2 P y hP hy, take_snoc hi, sumC_app, lI_add, Int.add_assoc]
      congr 2
      show _ = _ + (i.net z.fc P + 0)
      omega) (by omega) (by omega) (by omega)
    refine ⟨S', ?_, b3, a2.tr b4⟩
    unfold hl_Qu_resolve_27
    rw [hR.Q.qs, if_neg (nI_ngt (by omega) (by omega) (by omega)), ix_N (by omega) (by omega), Option.bind_some, hR.Q.q j i hi, Option.bind_some, a1, Option.bind_some, nI_add1, b1]
/-- those that are still chosen, and what the positions would be -/
def HC (S : hS) (z : Z) (g : hG) (q : List Ins) (C : Ins → Bool) : Prop := (∀ i ∈ q, S.2.1 705 (g.xi i) = b2i (C i)) ∧ ∀ P y, (∃ i ∈ q, P ∈ i.pls z.fc) → g.ad P = some y → S.2.2.1 1009 y = lI (z.lev P + sumC z.fc C P q)
theorem HC.cg {S : hS} {z : Z} {g : hG} {q : List Ins} {C D : Ins → Bool} (h : HC S z g q C) (e : ∀ i ∈ q, D i = C i) : HC S z g q D := ⟨fun i hi => by rw [e i hi]; exact h.1 i hi, fun P y a b => by rw [sumC_eq e]; exact h.2 P y a b⟩
theorem HC.x {ki kl kr ka kb kq : List Nat} {S S' : hS} {z : Z} {g : hG} {q : List Ins} {C : Ins → Bool} (h : HC S z g q C) (w : hX ki kl kr ka kb kq S S') (h1 : 705 ∉ ki) (h2 : 1009 ∉ kl) : HC S' z g q C := ⟨fun i hi => (w.ei _ h1 _).trans (h.1 i hi), fun P y a b => (w.el _ h2 _).trans (h.2 P y a b)⟩
/-- one is left out -/
theorem HC.out {n : Nat} {S : hS} {z : Z} {g : hG} {q u : List Ins} {C : Ins → Bool} (h : HC S z g q C) (hR : HR S z g q u) (hO : okZ n z) {j : Nat} {i : Ins} (hi : q[j]? = some i) (hc : C i = true) : ∃ S', h_In_leaveTrial (g.xi i) S = some S' ∧ HC S' z g q (out1 C i) ∧ hX [705] [1009] [] [] [] [] S S' := by
  have hiq := List.mem_of_getElem? hi
  have hu := q_unq hO.q hR.Q.isq
  obtain ⟨hiz, hok, ks, hN⟩ := hR.i hO hi
  obtain ⟨S1, a1, a2, a3, a4, a5⟩ := h_leave hok hN hR.B.tab
  refine ⟨S1, a1, ⟨fun k hk => ?_, fun P y hP hy => ?_⟩, a2⟩
  · by_cases e : k = i
    · rw [e, a3, out1_i]; rfl
    · rw [a4 _ (hR.Q.xne hO hk hiq e), h.1 k hk, out1_ne (fun c => e (ins_eq hu hiq hk c.1 c.2).symm)]
  · rw [a5 P y hy, h.2 P y hP hy, lI_sub, sumC_out1 hu hiq, if_pos hc]
    congr 1
    omega
theorem out1_same {q : List Ins} (hu : q.Pairwise (fun i j => ¬ (i.who = j.who ∧ i.nm = j.nm))) {C : Ins → Bool} {i : Ins} (hi : i ∈ q) (hc : C i = false) : ∀ k ∈ q, out1 C i k = C k := fun k hk => by
  by_cases e : k = i
  · rw [e, out1_i, hc]
  · exact out1_ne (fun c => e (ins_eq hu hi hk c.1 c.2).symm)
theorem HK.mark {S S' : hS} {ad : Nat → Option Nat} {L : Nat} {T : Nat → Bool} (h : HK S ad L) (w : hX [1008] [] [] [] [] [] S S') (hm : ∀ P y, ad P = some y → S'.2.1 1008 y = if T P = true then nI L else S.2.1 1008 y) : HK S' ad L := ⟨(w.ei _ (by decide) _).trans h.look, fun P y hy => by
  rw [hm P y hy]
  by_cases ht : T P = true
  · rw [if_pos ht]; exact ⟨L, Nat.le_refl _, rfl⟩
  · rw [if_neg ht]; exact h.mk P y hy⟩
/-- in a sorted row: what comes behind -/
theorem ahd_drop {q : List Ins} (hp : q.Pairwise ahd) {m : Nat} {i : Ins} (hi : q[m]? = some i) {j : Ins} (hj : j ∈ q) (h : ahd i j) : j ∈ q.drop (m + 1) := by
  rw [← List.take_append_drop (m + 1) q, List.mem_append] at hj
  rcases hj with c | c
  · exfalso
    rw [take_snoc hi, List.mem_append, List.mem_singleton] at c
    rcases c with c | c
    · have := hp
      rw [← List.take_append_drop m q, drop_cons hi] at this
      exact ahd_ir h ((List.pairwise_append.mp this).2.2 j c i List.mem_cons_self)
    · rw [c] at h; exact ahd_ir h h
  · exact c
theorem i32_m1 (m : Nat) : nI m + (-1) = nI m - 1 := (Int32.sub_eq_add_neg _ _).symm
theorem nI_succ_sub (m : Nat) : nI (m + 1) - 1 = nI m := by
  rw [← nI_add1]
  exact Int32.add_sub_cancel ..
set_option maxHeartbeats 1000000 in
theorem h_many_loop {n : Nat} {z : Z} {g : hG} {q u : List Ins} (hO : okZ n z) (hF : okF z) {L : Nat} (hq : q.length ≤ 250) (C0 : Ins → Bool) : ∀ (m fu : Nat) (S : hS) (C : Ins → Bool) (b : Bool), HR S z g q u → HK S g.ad L → HC S z g q C → z.ub q C → (∀ P y, g.ad P = some y → (S.2.1 1008 y = nI L ↔ ((q.drop m).any fun k => C k && z.tks k P) = true)) → (∀ k ∈ q, C k = true → C0 k = true) → (b = true → cnt C q < cnt C0 q) → (b = false → (∀ k ∈ q, C k = C0 k) ∧ ∀ P, (∃ k ∈ q.drop m, C k = true ∧ z.tks k P = true) → z.flr P ≤ z.lev P + sumC z.fc C P q) → m ≤ q.length → m < fu → ∃ S' C' b', hl_Qu_dropTooMany_19 fu (b2i b) (nI m - 1) S = some (b2i b', S') ∧ HC S' z g q C' ∧ HK S' g.ad L ∧ z.ub q C' ∧ (∀ k ∈ q, C' k = true → C0 k = true) ∧ (b' = true → cnt C' q < cnt C0 q) ∧ (b' = false → (∀ k ∈ q, C' k = C0 k) ∧ z.flrd q C') ∧ hX [705, 1008] [1009] [] [] [] [] S S' := by
  intro m
  induction m with
  | zero =>
    intro fu S C b hR hK hC hub hm hle h1 h0 hmq hf
    obtain ⟨fu, rfl⟩ : ∃ f, fu = f + 1 := ⟨fu - 1, by omega⟩
    refine ⟨S, C, b, ?_, hC, hK, hub, hle, h1, fun c => ?_, hX.rf⟩
    · unfold hl_Qu_dropTooMany_19
      rw [if_pos (show nI 0 - 1 < 0 by decide)]
    · obtain ⟨a1, a2⟩ := h0 c
      rw [List.drop_zero] at a2
      exact ⟨a1, a2⟩
  | succ m ih =>
    intro fu S C b hR hK hC hub hm hle h1 h0 hmq hf
    obtain ⟨fu, rfl⟩ : ∃ f, fu = f + 1 := ⟨fu - 1, by omega⟩
    obtain ⟨i, hi⟩ := get_lt (ks := q) (j := m) (by omega)
    have hiq := List.mem_of_getElem? hi
    have hp := hR.Q.isq.1
    have hu := q_unq hO.q hR.Q.isq
    obtain ⟨hiz, hok, ks, hN⟩ := hR.i hO hi
    have hbd : ∀ P, inL (z.lev P + sumC z.fc C P q) := fun P => by
      have h3 := hF.lev P
      have h4 := sumC_bnd (z := z) C P (q := q) (fun k hk => (hO.oki k ((hR.Q.isq.2 k).mp hk).1).n)
      have : (q.length : Int) ≤ 250 := by omega
      omega
    have hlast := h_last hN hR.B.tab hok hF hm (T := fun P => z.lev P + sumC z.fc C P q) (fun P y hP hy => ⟨hC.2 P y ⟨i, hiq, hP⟩ hy, hbd P⟩)
    have hdc : q.drop m = i :: q.drop (m + 1) := drop_cons hi
    have hstep : ∀ (S1 : hS) (C1 : Ins → Bool) (b1 : Bool), hX [705, 1008] [1009] [] [] [] [] S S1 → (hl_Qu_dropTooMany_19 (fu + 1) (b2i b) (nI (m + 1) - 1) S = hl_Qu_dropTooMany_19 fu (b2i b1) (nI m - 1) S1) → HK S1 g.ad L → HC S1 z g q C1 → z.ub q C1 → (∀ P y, g.ad P = some y → (S1.2.1 1008 y = nI L ↔ ((q.drop m).any fun k => C1 k && z.tks k P) = true)) → (∀ k ∈ q, C1 k = true → C0 k = true) → (b1 = true → cnt C1 q < cnt C0 q) → (b1 = false → (∀ k ∈ q, C1 k = C0 k) ∧ ∀ P, (∃ k ∈ q.drop m, C1 k = true ∧ z.tks k P = true) → z.flr P ≤ z.lev P + sumC z.fc C1 P q) → ∃ S' C' b', hl_Qu_dropTooMany_19 (fu + 1) (b2i b) (nI (m + 1) - 1) S = some (b2i b', S') ∧ HC S' z g q C' ∧ HK S' g.ad L ∧ z.ub q C' ∧ (∀ k ∈ q, C' k = true → C0 k = true) ∧ (b' = true → cnt C' q < cnt C0 q) ∧ (b' = false → (∀ k ∈ q, C' k = C0 k) ∧ z.flrd q C') ∧ hX [705, 1008] [1009] [] [] [] [] S S' := by
      intro S1 C1 b1 w e k1 k2 k3 k4 k5 k6 k7
      obtain ⟨S', C', b', p1, p2, p3, p4, p5, p6, p7, p8⟩ := ih fu S1 C1 b1 (hR.x w (by simp) (by simp)) k1 k2 k3 k4 k5 k6 k7 (by omega) (by omega)
      exact ⟨S', C', b', e.trans p1, p2, p3, p4, p5, p6, p7, w.tr p8⟩
    have hun : ∀ {X : Option (Int32 × hS)}, hl_Qu_dropTooMany_19 (fu + 1) (b2i b) (nI (m + 1) - 1) S = (((if ((S.2.1 705 (g.xi i)) : Int32) = 0 then (if ((S.2.1 705 (g.xi i)) : Int32) = 0 then (some (b2i b, S)) else ((h_In_markTaken (g.xi i) (S.2.1 1106 16) S).bind fun q23 => (some (b2i b, q23)))) else ((h_In_isLastTooMany (g.xi i) (S.2.1 1106 16) S).bind fun q34 => (if (q34 : Int32) = 0 then (if ((S.2.1 705 (g.xi i)) : Int32) = 0 then (some (b2i b, S)) else ((h_In_markTaken (g.xi i) (S.2.1 1106 16) S).bind fun q44 => (some (b2i b, q44)))) else ((h_In_leaveTrial (g.xi i) S).bind fun q55 => (some (1, q55)))))).bind fun (u13 : Int32 × hS) => (hl_Qu_dropTooMany_19 fu u13.1 (nI m + (-1)) u13.2))) := by
      intro X
      conv => lhs; unfold hl_Qu_dropTooMany_19
      rw [nI_succ_sub, if_neg (nI_neg1 (by omega)), ix_N (by omega) (by omega), Option.bind_some, hR.Q.q m i hi, Option.bind_some]
    have hun := hun (X := none)
    rw [hC.1 i hiq, hK.look, i32_m1] at hun
    cases hci : C i with
    | false =>
      rw [hci, if_pos (by decide), if_pos (by decide), Option.bind_some] at hun
      refine hstep S C b hX.rf hun hK hC hub (fun P y hy => ?_) hle h1 (fun c => ?_)
      · rw [hm P y hy, hdc, List.any_cons, hci, Bool.false_and, Bool.false_or]
      · obtain ⟨a1, a2⟩ := h0 c
        refine ⟨a1, fun P hP => a2 P ?_⟩
        obtain ⟨k, hk, hk2, hk3⟩ := hP
        rw [hdc] at hk
        rcases List.mem_cons.mp hk with e | e
        · rw [e, hci] at hk2; cases hk2
        · exact ⟨k, e, hk2, hk3⟩
    | true =>
      rw [hci, if_neg (by decide), if_neg (by decide), hlast, Option.bind_some] at hun
      cases hl : (i.pls z.fc).any (lstB z (fun P => (q.drop (m + 1)).any fun k => C k && z.tks k P) (fun P => z.lev P + sumC z.fc C P q) i) with
      | false =>
        obtain ⟨S1, a1, a2, a3⟩ := h_mark hok hN hR.B.tab (nI L)
        rw [hl, if_pos (by decide), a1, Option.bind_some, Option.bind_some] at hun
        refine hstep S1 C b (a2.mono (by decide) (by simp) (by simp) (by simp) (by simp) (by simp)) hun (hK.mark a2 a3) (hC.x a2 (by decide) (by simp)) hub (fun P y hy => ?_) hle h1 (fun c => ?_)
        · rw [a3 P y hy, hdc, List.any_cons, hci, Bool.true_and, Bool.or_eq_true]
          by_cases ht : z.tks i P = true
          · rw [if_pos ht]; exact ⟨fun _ => Or.inl ht, fun _ => rfl⟩
          · rw [if_neg ht, hm P y hy]; exact ⟨Or.inr, fun c => c.resolve_left ht⟩
        · obtain ⟨b1, b2⟩ := h0 c
          refine ⟨b1, fun P hP => ?_⟩
          obtain ⟨k, hk, hk2, hk3⟩ := hP
          rw [hdc] at hk
          rcases List.mem_cons.mp hk with e | e
          · subst e
            by_cases hmm : ((q.drop (m + 1)).any fun k => C k && z.tks k P) = true
            · obtain ⟨k', hk', hk''⟩ := List.any_eq_true.mp hmm
              rw [Bool.and_eq_true] at hk''
              exact b2 P ⟨k', hk', hk''⟩
            · have hPm : P ∈ k.pls z.fc := net_mem (by have := (tks_iff.mp hk3).1; omega)
              have := List.any_eq_false.mp hl P hPm
              unfold lstB at this
              rw [hk3] at this
              simp only [Bool.not_eq_true] at hmm
              simp only [hmm, Bool.true_and, Bool.not_false, decide_eq_true_eq] at this
              omega
          · exact b2 P ⟨k, e, hk2, hk3⟩
      | true =>
        obtain ⟨S1, a1, a2, a3⟩ := hC.out hR hO hi hci
        rw [hl, if_neg (by decide), a1, Option.bind_some, Option.bind_some] at hun
        obtain ⟨P0, hP0, hb0⟩ := List.any_eq_true.mp hl
        unfold lstB at hb0
        rw [Bool.and_eq_true, Bool.and_eq_true, Bool.not_eq_true', decide_eq_true_iff] at hb0
        obtain ⟨c1, c2, c3⟩ := hb0
        have c3' : z.lev P0 + sumC z.fc C P0 q < z.flr P0 := c3
        have htt := tks_iff.mp c1
        have hVi : ∀ V, z.vld q V → V i = false := fun V hV => ub_short hp hub htt.2 (by omega) hiq htt.1 (fun k hk hak hck hnk => by
          have hkd := ahd_drop hp hi hk hak
          have := List.any_eq_false.mp c2 k hkd
          rw [hck, tks_iff.mpr ⟨hnk, htt.2⟩] at this
          exact this rfl) hV
        have hub1 : z.ub q (out1 C i) := fun V hV k hk hVk => by
          by_cases e : k = i
          · rw [e, hVi V hV] at hVk; cases hVk
          · rw [out1_ne (fun c => e (ins_eq hu hiq hk c.1 c.2).symm)]; exact hub V hV k hk hVk
        refine hstep S1 (out1 C i) true (a3.mono (by decide) (by simp) (by simp) (by simp) (by simp) (by simp)) hun (hK.x a3 (by decide)) a2 hub1 (fun P y hy => ?_) (fun k hk hk1 => hle k hk (out1_le hk1)) (fun _ => ?_) (fun c => by cases c)
        · rw [a3.ei _ (by decide), hm P y hy, hdc, List.any_cons, out1_i, Bool.false_and, Bool.false_or]
          have : ∀ k ∈ q.drop (m + 1), out1 C i k = C k := fun k hk => out1_ne (fun c => by
            have hnd := hu
            rw [← List.take_append_drop m q, hdc] at hnd
            exact (List.pairwise_cons.mp (List.pairwise_append.mp hnd).2.1).1 k hk c)
          rw [List.any_eq_true, List.any_eq_true]
          exact ⟨fun ⟨k, a, b⟩ => ⟨k, a, by rw [this k a]; exact b⟩, fun ⟨k, a, b⟩ => ⟨k, a, by rw [← this k a]; exact b⟩⟩
        · have k1 := cnt_lt (C := C) (D := out1 C i) (q := q) (fun k _ hk => out1_le hk) ⟨i, hiq, hci, out1_i C i⟩
          have k2 := cnt_le (C := C0) (D := C) (q := q) hle
          omega
/-- the too many are dropped -/
theorem h_many {n : Nat} {S : hS} {z : Z} {g : hG} {q u : List Ins} {L : Nat} {C : Ins → Bool} (hO : okZ n z) (hF : okF z) (hL : L < 1999999999) (hR : HR S z g q u) (hK : HK S g.ad L) (hC : HC S z g q C) (hub : z.ub q C) : ∃ S' C' b', h_Qu_dropTooMany S = some (b2i b', S') ∧ HR S' z g q u ∧ HC S' z g q C' ∧ HK S' g.ad (L + 1) ∧ z.ub q C' ∧ (∀ k ∈ q, C' k = true → C k = true) ∧ (b' = true → cnt C' q < cnt C q) ∧ (b' = false → (∀ k ∈ q, C' k = C k) ∧ z.flrd q C') ∧ hX [705, 1008, 1106] [1009] [] [] [] [] S S' := by
  have hl := hR.Q.len hO
  obtain ⟨k1, k2, k3⟩ := hK.next (by omega)
  obtain ⟨S', C', b', p1, p2, p3, p4, p5, p6, p7, p8⟩ := h_many_loop hO hF hl.2 C q.length 100000 _ C false (hR.x k3 (by simp) (by simp)) k1 (hC.x k3 (by decide) (by simp)) hub (fun P y hy => by rw [k2 P y hy, List.drop_of_length_le (Nat.le_refl _)]; rfl) (fun _ _ h => h) (fun c => by cases c) (fun _ => ⟨fun _ _ => rfl, fun P hP => by rw [List.drop_of_length_le (Nat.le_refl _)] at hP; obtain ⟨k, hk, _⟩ := hP; cases hk⟩) (Nat.le_refl _) (by omega)
  have W : hX [705, 1008, 1106] [1009] [] [] [] [] S S' := (k3.mono (by decide) (by simp) (by simp) (by simp) (by simp) (by simp)).tr (p8.mono (by decide) (by simp) (by simp) (by simp) (by simp) (by simp))
  refine ⟨S', C', b', ?_, hR.x W (by simp) (by simp), p2, p3, p4, p5, p6, p7, W⟩
  unfold h_Qu_dropTooMany
  have e : hl_Qu_dropTooMany_19 100000 0 (S.2.1 1101 16 - 1) (hpI S 1106 16 (S.2.1 1106 16 + 1)) = some (b2i b', S') := by
    rw [hR.Q.qs]; exact p1
  rw [e, Option.bind_some]
  exact if_pos (show b2i b' = 0 ∨ b2i b' = 1 by cases b' <;> decide)
theorem h_foll_loop {n : Nat} {z : Z} {g : hG} {q u : List Ins} (hO : okZ n z) {L : Nat} (hq : q.length ≤ 250) : ∀ (d fu j : Nat) (S : hS) (m : Nat → Bool) (C : Ins → Bool), HR S z g q u → HK S g.ad L → HC S z g q C → (∀ P y, g.ad P = some y → (S.2.1 1008 y = nI L ↔ m P = true)) → q.length - j = d → d < fu → j ≤ q.length → ∃ S', hl_Qu_dropFollowers_12 fu (nI j) S = some S' ∧ HC S' z g q (cloF z m C (q.drop j)) ∧ HK S' g.ad L ∧ hX [705, 1008] [1009] [] [] [] [] S S' := by
  intro d
  induction d with
  | zero =>
    intro fu j S m C hR hK hC hm hd hf hj
    obtain ⟨fu, rfl⟩ : ∃ f, fu = f + 1 := ⟨fu - 1, by omega⟩
    refine ⟨S, ?_, ?_, hK, hX.rf⟩
    · unfold hl_Qu_dropFollowers_12
      rw [hR.Q.qs, if_pos (nI_le0 (by omega) (by omega) (by omega))]
    · rw [List.drop_of_length_le (by omega)]; exact hC
  | succ d ih =>
    intro fu j S m C hR hK hC hm hd hf hj
    obtain ⟨fu, rfl⟩ : ∃ f, fu = f + 1 := ⟨fu - 1, by omega⟩
    obtain ⟨i, hi⟩ := get_lt (ks := q) (j := j) (by omega)
    have hiq := List.mem_of_getElem? hi
    have hu := q_unq hO.q hR.Q.isq
    obtain ⟨hiz, hok, ks, hN⟩ := hR.i hO hi
    have hhit := h_hit hN hR.B.tab hok hm
    rw [drop_cons hi]
    have hun : hl_Qu_dropFollowers_12 (fu + 1) (nI j) S = ((if ((S.2.1 705 (g.xi i)) : Int32) = 0 then (some S) else ((h_In_takesMarked (g.xi i) (S.2.1 1106 16) S).bind fun q42 => (if (q42 : Int32) = 0 then (some S) else ((h_In_leaveTrial (g.xi i) S).bind fun q51 => (some q51))))).bind fun (u13 : hS) => ((if ¬ ((u13.2.1 705 (g.xi i)) : Int32) = 0 then (some u13) else ((h_In_markTaken (g.xi i) (u13.2.1 1106 16) u13).bind fun q30 => (some q30))).bind fun (u21 : hS) => (hl_Qu_dropFollowers_12 fu (nI j + 1) u21))) := by
      conv => lhs; unfold hl_Qu_dropFollowers_12
      rw [hR.Q.qs, if_neg (nI_ngt (by omega) (by omega) (by omega)), ix_N (by omega) (by omega), Option.bind_some, hR.Q.q j i hi, Option.bind_some]
    rw [hC.1 i hiq, hK.look, nI_add1] at hun
    -- marks, on from a state in which it is out
    have hout : ∀ S1, hX [705, 1008] [1009] [] [] [] [] S S1 → HK S1 g.ad L → HC S1 z g q (out1 C i) → (∀ P y, g.ad P = some y → (S1.2.1 1008 y = nI L ↔ m P = true)) → ∃ S', ((if ¬ ((S1.2.1 705 (g.xi i)) : Int32) = 0 then (some S1) else ((h_In_markTaken (g.xi i) (S1.2.1 1106 16) S1).bind fun q30 => (some q30))).bind fun (u21 : hS) => (hl_Qu_dropFollowers_12 fu (nI (j + 1)) u21)) = some S' ∧ HC S' z g q (cloF z (z.mrk m i) (out1 C i) (q.drop (j + 1))) ∧ HK S' g.ad L ∧ hX [705, 1008] [1009] [] [] [] [] S S' := by
      intro S1 w k1 k2 k3
      have hR1 := hR.x w (by simp) (by simp)
      obtain ⟨-, -, ks1, hN1⟩ := hR1.i hO hi
      obtain ⟨S2, a1, a2, a3⟩ := h_mark hok hN1 hR1.B.tab (nI L)
      obtain ⟨S', p1, p2, p3, p4⟩ := ih fu (j + 1) S2 (z.mrk m i) (out1 C i) (hR1.x a2 (by simp) (by simp)) (k1.mark a2 a3) (k2.x a2 (by decide) (by simp)) (fun P y hy => by
        rw [a3 P y hy]
        unfold Z.mrk
        rw [Bool.or_eq_true]
        by_cases ht : z.tks i P = true
        · rw [if_pos ht]; exact ⟨fun _ => Or.inr ht, fun _ => rfl⟩
        · rw [if_neg ht, k3 P y hy]; exact ⟨Or.inl, fun c => c.resolve_right ht⟩) (by omega) (by omega) (by omega)
      refine ⟨S', ?_, p2, p3, (w.tr (a2.mono (by decide) (by simp) (by simp) (by simp) (by simp) (by simp))).tr p4⟩
      rw [k2.1 i hiq, out1_i, if_neg (by decide), k1.look, a1, Option.bind_some, Option.bind_some, p1]
    cases hci : C i with
    | false =>
      rw [hci, if_pos (by decide), Option.bind_some] at hun
      have e : cloF z m C (i :: q.drop (j + 1)) = cloF z (z.mrk m i) (out1 C i) (q.drop (j + 1)) := by
        conv => lhs; unfold cloF
        rw [hci, if_neg (by simp)]
      rw [e]
      obtain ⟨S', p1, p2, p3, p4⟩ := hout S hX.rf hK (hC.cg (out1_same hu hiq hci)) hm
      exact ⟨S', hun.trans p1, p2, p3, p4⟩
    | true =>
      rw [hci, if_neg (by decide), hhit, Option.bind_some] at hun
      cases hh : z.hit m i with
      | false =>
        rw [hh, if_pos (by decide), Option.bind_some, hC.1 i hiq, hci, if_pos (by decide), Option.bind_some] at hun
        have e : cloF z m C (i :: q.drop (j + 1)) = cloF z m C (q.drop (j + 1)) := by
          conv => lhs; unfold cloF
          rw [hci, hh]; rfl
        rw [e]
        obtain ⟨S', p1, p2, p3, p4⟩ := ih fu (j + 1) S m C hR hK hC hm (by omega) (by omega) (by omega)
        exact ⟨S', hun.trans p1, p2, p3, p4⟩
      | true =>
        obtain ⟨S1, a1, a2, a3⟩ := hC.out hR hO hi hci
        rw [hh, if_neg (by decide), a1, Option.bind_some, Option.bind_some] at hun
        have e : cloF z m C (i :: q.drop (j + 1)) = cloF z (z.mrk m i) (out1 C i) (q.drop (j + 1)) := by
          conv => lhs; unfold cloF
          rw [hci, hh, if_neg (by simp)]
        rw [e]
        obtain ⟨S', p1, p2, p3, p4⟩ := hout S1 (a3.mono (by decide) (by simp) (by simp) (by simp) (by simp) (by simp)) (hK.x a3 (by decide)) a2 (fun P y hy => by rw [a3.ei _ (by decide)]; exact hm P y hy)
        exact ⟨S', hun.trans p1, p2, p3, p4⟩
theorem h_foll {n : Nat} {S : hS} {z : Z} {g : hG} {q u : List Ins} {L : Nat} {C : Ins → Bool} (hO : okZ n z) (hL : L < 1999999999) (hR : HR S z g q u) (hK : HK S g.ad L) (hC : HC S z g q C) : ∃ S', h_Qu_dropFollowers S = some S' ∧ HR S' z g q u ∧ HC S' z g q (cloF z (fun _ => false) C q) ∧ HK S' g.ad (L + 1) ∧ hX [705, 1008, 1106] [1009] [] [] [] [] S S' := by
  have hl := hR.Q.len hO
  obtain ⟨k1, k2, k3⟩ := hK.next (by omega)
  obtain ⟨S', p1, p2, p3, p4⟩ := h_foll_loop hO hl.2 _ 100000 0 _ (fun _ => false) C (hR.x k3 (by simp) (by simp)) k1 (hC.x k3 (by decide) (by simp)) k2 rfl (by omega) (by omega)
  rw [List.drop_zero] at p2
  have W : hX [705, 1008, 1106] [1009] [] [] [] [] S S' := (k3.mono (by decide) (by simp) (by simp) (by simp) (by simp) (by simp)).tr (p4.mono (by decide) (by simp) (by simp) (by simp) (by simp) (by simp))
  refine ⟨S', ?_, hR.x W (by simp) (by simp), p2, p3, W⟩
  unfold h_Qu_dropFollowers
  rw [show (0 : Int32) = nI 0 from rfl, p1]; rfl
/-- a closed set stays -/
theorem cloF_id {z : Z} {q : List Ins} (hp : q.Pairwise ahd) (hu : q.Pairwise (fun i j => ¬ (i.who = j.who ∧ i.nm = j.nm))) {C0 : Ins → Bool} (hc : z.clsd q C0) : ∀ (r p : List Ins) (m : Nat → Bool) (C : Ins → Bool), q = p ++ r → (∀ x ∈ q, C x = C0 x) → (∀ P, m P = true → ∃ x ∈ p, C0 x = false ∧ z.tks x P = true) → ∀ x ∈ q, cloF z m C r x = C0 x := by
  intro r
  induction r with
  | nil => intro p m C _ h _ x hx; exact h x hx
  | cons i r ih =>
    intro p m C hq h hm x hx
    have hq' : q = (p ++ [i]) ++ r := by rw [hq]; simp
    have hiq : i ∈ q := by rw [hq]; simp
    unfold cloF
    by_cases hch : (C i && !(z.hit m i)) = true
    · rw [if_pos hch]
      refine ih (p ++ [i]) m C hq' h (fun P hP => ?_) x hx
      obtain ⟨y, a, b⟩ := hm P hP
      exact ⟨y, List.mem_append_left _ a, b⟩
    · rw [if_neg hch]
      have hci : C i = false := by
        cases hci : C i with
        | false => rfl
        | true =>
          exfalso
          rw [hci, Bool.true_and, Bool.not_eq_true', Bool.not_eq_false] at hch
          obtain ⟨P, h1, h2⟩ := hit_iff.mp hch
          obtain ⟨y, a, b, c⟩ := hm P h2
          have hyq : y ∈ q := by rw [hq]; exact List.mem_append_left _ a
          have hyi : ahd y i := by
            rw [hq] at hp
            exact (List.pairwise_append.mp hp).2.2 y a i List.mem_cons_self
          exact hc y i hyq hiq hyi (by rw [← h i hiq]; exact hci) b P ⟨c, h1⟩
      refine ih (p ++ [i]) (z.mrk m i) (out1 C i) hq' (fun y hy => ?_) (fun P hP => ?_) x hx
      · rw [out1_same hu hiq hci y hy]; exact h y hy
      · unfold Z.mrk at hP
        rw [Bool.or_eq_true] at hP
        rcases hP with a | a
        · obtain ⟨y, b, c⟩ := hm P a
          exact ⟨y, List.mem_append_left _ b, c⟩
        · exact ⟨i, List.mem_append_right _ (List.mem_singleton.mpr rfl), by rw [← h i hiq]; exact hci, a⟩
theorem h_res54 {n : Nat} {z : Z} {g : hG} {q u : List Ins} (hO : okZ n z) (hF : okF z) : ∀ (d fu c : Nat) (S : hS) (C : Ins → Bool) (L : Nat), HR S z g q u → HK S g.ad L → HC S z g q C → z.clsd q C → z.ub q C → 250 - c = d → d + 1 < fu → c ≤ 250 → cnt C q ≤ d → L + 2 * d + 4 < 1999999999 → ∃ S' C' L', hl_Qu_resolve_54 fu 1 (nI c) S = some S' ∧ HR S' z g q u ∧ HC S' z g q C' ∧ HK S' g.ad L' ∧ z.vld q C' ∧ z.ub q C' ∧ L ≤ L' ∧ L' ≤ L + 2 * d + 2 ∧ hX [705, 1008, 1106] [1009] [] [] [] [] S S' := by
  intro d
  induction d with
  | zero =>
    intro fu c S C L hR hK hC hcl hub hd hf hc hcn hL
    obtain ⟨fu, rfl⟩ : ∃ f, fu = f + 2 := ⟨fu - 2, by omega⟩
    have hp := hR.Q.isq.1
    have hu := q_unq hO.q hR.Q.isq
    obtain ⟨S1, C1, b1, a1, a2, a3, a4, a5, a6, a7, a8, a9⟩ := h_many hO hF (by omega) hR hK hC hub
    have hb : b1 = false := by
      cases b1 with
      | false => rfl
      | true => have := a7 rfl; omega
    subst hb
    obtain ⟨e1, e2⟩ := a8 rfl
    obtain ⟨S2, b1, b2, b3, b4, b5⟩ := h_foll hO (by omega) a2 a4 a3
    have hcl1 : z.clsd q C1 := fun j i hj hi h1 h2 h3 => hcl j i hj hi h1 (by rw [← e1 i hi]; exact h2) (by rw [← e1 j hj]; exact h3)
    refine ⟨S2, C1, L + 1 + 1, ?_, b2, b3.cg (fun x hx => (cloF_id hp hu hcl1 q [] _ C1 rfl (fun _ _ => rfl) (fun P hP => by cases hP) x hx).symm), b4, ⟨hcl1, e2⟩, a5, by omega, by omega, a9.tr b5⟩
    unfold hl_Qu_resolve_54
    rw [if_neg (fun w => by have := (nI_lt' (a := 250) (b := c) (by omega) (by omega)).mp w; omega), if_neg (by decide), a1, Option.bind_some, b1, Option.bind_some, nI_add1]
    unfold hl_Qu_resolve_54
    by_cases hc1 : (250 : Int32) < nI (c + 1)
    · rw [if_pos hc1]
    · rw [if_neg hc1]; exact if_pos rfl
  | succ d ih =>
    intro fu c S C L hR hK hC hcl hub hd hf hc hcn hL
    obtain ⟨fu, rfl⟩ : ∃ f, fu = f + 1 := ⟨fu - 1, by omega⟩
    have hp := hR.Q.isq.1
    have hu := q_unq hO.q hR.Q.isq
    obtain ⟨S1, C1, b1, a1, a2, a3, a4, a5, a6, a7, a8, a9⟩ := h_many hO hF (by omega) hR hK hC hub
    obtain ⟨S2, b1', b2, b3, b4, b5⟩ := h_foll hO (by omega) a2 a4 a3
    unfold hl_Qu_resolve_54
    rw [if_neg (fun w => by have := (nI_lt' (a := 250) (b := c) (by omega) (by omega)).mp w; omega), if_neg (by decide), a1, Option.bind_some, b1', Option.bind_some, nI_add1]
    cases b1 with
    | false =>
      obtain ⟨e1, e2⟩ := a8 rfl
      have hcl1 : z.clsd q C1 := fun j i hj hi h1 h2 h3 => hcl j i hj hi h1 (by rw [← e1 i hi]; exact h2) (by rw [← e1 j hj]; exact h3)
      refine ⟨S2, C1, L + 1 + 1, ?_, b2, b3.cg (fun x hx => (cloF_id hp hu hcl1 q [] _ C1 rfl (fun _ _ => rfl) (fun P hP => by cases hP) x hx).symm), b4, ⟨hcl1, e2⟩, a5, by omega, by omega, a9.tr b5⟩
      obtain ⟨fu, rfl⟩ : ∃ f, fu = f + 1 := ⟨fu - 1, by omega⟩
      unfold hl_Qu_resolve_54
      by_cases hc1 : (250 : Int32) < nI (c + 1)
      · rw [if_pos hc1]
      · rw [if_neg hc1]; exact if_pos rfl
    | true =>
      have h7 := a7 rfl
      obtain ⟨c1, c2⟩ := clo_all (z := z) hp hu a5
      have h8 := cnt_le (C := C1) (D := cloF z (fun _ => false) C1 q) (q := q) (fun _ _ h => cloF_le h)
      obtain ⟨S', C', L', p1, p2, p3, p4, p5, p6, p7, p8, p9⟩ := ih fu (c + 1) S2 _ _ b2 b4 b3 c1 c2 (by omega) (by omega) (by omega) (by omega) (by omega)
      exact ⟨S', C', L', p1, p2, p3, p4, p5, p6, by omega, by omega, (a9.tr b5).tr p9⟩
theorem filt_one {a b : List Ins} {i : Ins} (hu : (a ++ i :: b).Pairwise (fun i j => ¬ (i.who = j.who ∧ i.nm = j.nm))) : ((a ++ i :: b).filter fun j => !(sameK i j)) = a ++ b := by
  obtain ⟨h1, h2, h3⟩ := List.pairwise_append.mp hu
  obtain ⟨h4, h5⟩ := List.pairwise_cons.mp h2
  have ns : ∀ {x}, ¬ (i.who = x.who ∧ i.nm = x.nm) → (!(sameK i x)) = true := fun {x} h => by
    unfold sameK
    rw [decide_eq_false h]; rfl
  rw [List.filter_append, List.filter_cons_of_neg (by simp [sameK]), List.filter_eq_self.mpr (fun x hx => ns (fun c => h3 x hx i List.mem_cons_self ⟨c.1.symm, c.2.symm⟩)), List.filter_eq_self.mpr (fun x hx => ns (h4 x hx))]
theorem h_chosen_loop {n : Nat} {g : hG} {u : List Ins} {L : Nat} {C : Ins → Bool} : ∀ (r k : List Ins) (fu : Nat) (S : hS) (z : Z) (es : List (Ins × Bool)), HZ S z g (k ++ r) u L es → okZ n z → (∀ i ∈ r, S.2.1 705 (g.xi i) = b2i (C i)) → r.length < fu → ∃ S', hl_Qu_settleChosen_7 fu (nI k.length) (nI r.length) S = some S' ∧ HZ S' (stlL z (r.filter C)) g (k ++ r.filter fun i => !(C i)) u L (es ++ tld (r.filter C)) ∧ okZ n (stlL z (r.filter C)) ∧ hX sI0 sL0 [] [] [] sQ S S' := by
  intro r
  induction r with
  | nil =>
    intro k fu S z es h hO h5 hf
    obtain ⟨fu, rfl⟩ : ∃ f, fu = f + 1 := ⟨fu - 1, by omega⟩
    refine ⟨S, ?_, ?_, hO, hX.rf⟩
    · unfold hl_Qu_settleChosen_7
      rw [if_pos (show nI ([] : List Ins).length ≤ 0 by decide)]
    · show HZ S z g (k ++ []) u L (es ++ [])
      rw [List.append_nil (as := es)]; exact h
  | cons i r ih =>
    intro k fu S z es h hO h5 hf
    obtain ⟨fu, rfl⟩ : ∃ f, fu = f + 1 := ⟨fu - 1, by omega⟩
    have hl := h.Q.len hO
    rw [List.length_append, List.length_cons] at hl
    have hi : (k ++ i :: r)[k.length]? = some i := by rw [List.getElem?_append_right (Nat.le_refl _), Nat.sub_self]; rfl
    have hiq : i ∈ k ++ i :: r := List.mem_append_right _ List.mem_cons_self
    have hu := q_unq hO.q h.Q.isq
    have hun : hl_Qu_settleChosen_7 (fu + 1) (nI k.length) (nI (i :: r).length) S = ((if ((S.2.1 705 (g.xi i)) : Int32) = 0 then (some ((nI k.length + 1), S)) else ((h_Qu_settle (g.xi i) S).bind fun q18 => (some (nI k.length, q18)))).bind fun (u9 : Int32 × hS) => (hl_Qu_settleChosen_7 fu u9.1 (nI (i :: r).length + (-1)) u9.2)) := by
      conv => lhs; unfold hl_Qu_settleChosen_7
      rw [if_neg (show ¬ nI (i :: r).length ≤ 0 from nI_ngt (b := 0) (by rw [List.length_cons]; omega) (by omega) (by rw [List.length_cons]; omega)), ix_N (by omega) (by omega), Option.bind_some, h.Q.q _ _ hi, Option.bind_some]
    rw [h5 i List.mem_cons_self, List.length_cons, i32_m1, nI_succ_sub] at hun
    cases hc : C i with
    | false =>
      rw [hc, if_pos (by decide), Option.bind_some, nI_add1] at hun
      rw [List.filter_cons_of_neg (by rw [hc]; simp), List.filter_cons_of_pos (by rw [hc]; rfl)]
      obtain ⟨S', p1, p2, p3, p4⟩ := ih (k ++ [i]) fu S z es (by rw [List.append_assoc]; exact h) hO (fun j hj => h5 j (List.mem_cons_of_mem _ hj)) (by rw [List.length_cons] at hf; omega)
      rw [List.length_append, List.length_singleton] at p1
      refine ⟨S', hun.trans p1, ?_, p3, p4⟩
      rw [List.append_assoc] at p2
      exact p2
    | true =>
      obtain ⟨S1, a1, a2, a3⟩ := h_settle1 h hO hiq
      rw [filt_one hu] at a2
      rw [hc, if_neg (by decide), a1, Option.bind_some, Option.bind_some] at hun
      rw [List.filter_cons_of_pos hc, List.filter_cons_of_neg (by rw [hc]; simp)]
      obtain ⟨S', p1, p2, p3, p4⟩ := ih k fu S1 (z.stl i) _ a2 (hO.stl ((h.Q.isq.2 i).mp hiq).1) (fun j hj => by rw [a3.ei _ (by decide)]; exact h5 j (List.mem_cons_of_mem _ hj)) (by rw [List.length_cons] at hf; omega)
      refine ⟨S', hun.trans p1, ?_, p3, a3.tr p4⟩
      rw [List.append_assoc] at p2
      exact p2
/-- the greatest set settles -/
theorem h_resolve {n : Nat} (hn : n ≤ 512) {S : hS} {z : Z} {g : hG} {q u : List Ins} {L : Nat} {es : List (Ins × Bool)} (h : HZ S z g q u L es) (hO : okZ n z) (hL : L < 1999990000) : ∃ S' C L', h_Qu_resolve S = some S' ∧ z.vld q C ∧ z.ub q C ∧ HZ S' (stlL z (q.filter C)) g (q.filter fun i => !(C i)) u L' (es ++ tld (q.filter C)) ∧ okZ n (stlL z (q.filter C)) ∧ L ≤ L' ∧ L' ≤ L + 502 ∧ hX sI sL [] [] [] sQ S S' := by
  have hl := h.Q.len hO
  have hF := hO.f hn
  obtain ⟨S1, a1, a2, a3, a4⟩ := h_res2 hO hl.2 _ 100000 0 S ⟨h.B, h.Q⟩ (by simp) (by simp) rfl (by omega) (by omega)
  have hR1 : HR S1 z g q u := HR.x ⟨h.B, h.Q⟩ a4 (by simp) (by simp)
  obtain ⟨S2, b1, b2, b3⟩ := h_res27 hO hl.2 _ 100000 0 S1 hR1 (fun P y hP hy => by rw [a3 P y hP hy]; show _ = lI (z.lev P + 0); rw [Int.add_zero]) rfl (by omega) (by omega)
  have hR2 := hR1.x b3 (by simp) (by simp)
  have hC2 : HC S2 z g q (fun _ => true) := ⟨fun i hi => (b3.ei _ (by simp) _).trans (a2 i hi), b2⟩
  have hK2 : HK S2 g.ad L := (h.K.x a4 (by decide)).x b3 (by simp)
  obtain ⟨S3, C, L', c1, c2, c3, c4, c5, c6, c7, c8, c9⟩ := h_res54 hO hF 250 100000 0 S2 (fun _ => true) L hR2 hK2 hC2 (fun j i _ _ _ _ h => by cases h) (ub_all fun _ _ => rfl) rfl (by omega) (by omega) (Nat.le_trans (List.length_filter_le _ _) hl.2) (by omega)
  have W : hX [705, 1008, 1106] [1009] [] [] [] [] S S3 := ((a4.mono (by decide) (by simp) (by simp) (by simp) (by simp) (by simp)).tr (b3.mono (by simp) (by simp) (by simp) (by simp) (by simp) (by simp))).tr c9
  have hZ3 : HZ S3 z g q u L' es := ⟨c2.B, c2.Q, c4, h.O.x W (by decide) (by decide) (by simp)⟩
  obtain ⟨S4, d1, d2, d3, d4⟩ := h_chosen_loop q [] 100000 S3 z es hZ3 hO c3.1 (by omega)
  refine ⟨S4, C, L', ?_, c5, c6, d2, d3, c7, by omega, (W.mono (by decide) (by decide) (by simp) (by simp) (by simp) (by simp)).tr (d4.mono (by decide) (by decide) (by simp) (by simp) (by simp) (by simp))⟩
  unfold h_Qu_resolve
  have e1 : hl_Qu_resolve_2 100000 0 S = some S1 := a1
  have e2 : hl_Qu_resolve_27 100000 0 S1 = some S2 := b1
  have e3 : hl_Qu_resolve_54 100000 1 0 S2 = some S3 := c1
  rw [e1, Option.bind_some, e2, Option.bind_some, e3, Option.bind_some]
  unfold h_Qu_settleChosen
  have e4 : hl_Qu_settleChosen_7 100000 0 (S3.2.1 1101 16) S3 = some S4 := by rw [c2.Q.qs]; exact d1
  rw [e4]; rfl
