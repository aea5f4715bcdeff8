/-! The class settles, says so, and tells. -/
theorem setl_part : ∀ (m : Nat) (z : Z) (q : List Ins) (j : Ins), j ∈ z.ins → (∃ i ∈ (setl m z q).2.2, i.who = j.who ∧ i.nm = j.nm) ∨ j ∈ (setl m z q).1.ins := by
  intro m
  induction m with
  | zero => intro z q j hj; exact Or.inr hj
  | succ m ih =>
    intro z q j hj
    cases hf : z.fst (fun _ => false) q with
    | none => rw [setl_none hf]; exact Or.inr hj
    | some i =>
      rw [setl_some hf]
      by_cases c : sameK i j = true
      · exact Or.inl ⟨i, by simp, sameK_iff.mp c⟩
      · have hj' : j ∈ (z.stl i).ins := List.mem_filter.mpr ⟨hj, by
          cases hb : sameK i j with
          | true => exact absurd hb c
          | false => rfl⟩
        rcases ih (z.stl i) (q.filter fun j => !(sameK i j)) j hj' with ⟨k, k1, k2⟩ | q'
        · exact Or.inl ⟨k, by simp [k1], k2⟩
        · exact Or.inr q'
theorem setl_sub : ∀ (m : Nat) (z : Z) (q : List Ins), (∀ i ∈ (setl m z q).1.ins, i ∈ z.ins) ∧ (∀ i ∈ (setl m z q).2.2, i ∈ q) := by
  intro m
  induction m with
  | zero => intro z q; exact ⟨fun i hi => hi, fun i hi => by cases hi⟩
  | succ m ih =>
    intro z q
    cases hf : z.fst (fun _ => false) q with
    | none => rw [setl_none hf]; exact ⟨fun i hi => hi, fun i hi => by cases hi⟩
    | some i =>
      rw [setl_some hf]
      obtain ⟨i1, i2⟩ := ih (z.stl i) (q.filter fun j => !(sameK i j))
      refine ⟨fun j hj => (List.mem_filter.mp (i1 j hj)).1, fun j hj => ?_⟩
      rcases List.mem_cons.mp hj with e | e
      · rw [e]; exact (fst_mem hf).1
      · exact (List.mem_filter.mp (i2 j e)).1
theorem opn_of {n : Nat} {z : Z} (hO : okZ n z) {i : Ins} (hi : i ∈ z.ins) : z.opn i.who i.nm = some i := by
  cases ho : z.opn i.who i.nm with
  | none => exact absurd ⟨rfl, rfl⟩ (opn_none ho i hi)
  | some j =>
    obtain ⟨j1, j2, j3⟩ := opn_some ho
    rw [hO.uni j1 hi j2 j3]
/-- which line answers -/
def okw (z : Z) (es : List Ins) : Option (Nat × List Nat) → Nat
  | none => 2
  | some k => if es.any (fun i => decide (i.who = k.1 ∧ i.nm = k.2)) then 3 else match z.opn k.1 k.2 with
    | some i => if i.wt then 4 else 5
    | none => 5
theorem okw_lt (z : Z) (es : List Ins) (o : Option (Nat × List Nat)) : okw z es o < 6 := by
  unfold okw
  split
  · omega
  · split
    · omega
    · split
      · split <;> omega
      · omega
def h_tl (o : Option Nat) (S : hS) : Option hS := (h_Qu_settleAllThatCan S).bind fun q27 => ((if o = none then (some 2) else ((o).bind fun b65 => ((h_De_okOf b65 q27).bind fun q69 => (some q69)))).bind fun (u38 : Nat) => ((h_An_putLine u38 q27).bind fun q42 => ((h_Qu_tell q42).bind fun q53 => (some q53))))
theorem HZ.tl {S S' : hS} {z : Z} {g : hG} {q u : List Ins} {L : Nat} {es es' : List (Ins × Bool)} (h : HZ S z g q u L es) (w : hX [201, 1105] [] [] [8] [] [] S S') (hO : HO S' z g es') : HZ S' z g q u L es' := by
  obtain ⟨T, hT⟩ : ∃ T : hS, T = (S'.1, (fun k a => if k = 1105 then S.2.1 1105 a else S'.2.1 k a), S'.2.2) := ⟨_, rfl⟩
  have w1 : hX [201] [] [] [8] [] [] S T := by
    rw [hT]
    refine ⟨w.sh, fun k hk => ?_, w.l, w.r, w.a, w.b, w.q⟩
    funext a
    show (if k = 1105 then S.2.1 1105 a else S'.2.1 k a) = _
    by_cases c : k = 1105
    · rw [if_pos c, c]
    · rw [if_neg c, w.i k (fun q => by simp at hk q; omega)]
  have x : hX [1105] [] [] [] [] [] T S' := by
    rw [hT]
    refine ⟨rfl, fun k hk => ?_, fun _ _ => rfl, fun _ _ => rfl, fun _ _ => rfl, fun _ _ => rfl, fun _ _ => rfl⟩
    funext a
    show S'.2.1 k a = if k = 1105 then S.2.1 1105 a else S'.2.1 k a
    rw [if_neg (fun c => hk (by rw [c]; decide))]
  have z1 : HZ T z g q u L es := h.w (GW.ofX w1 (by decide) (by simp) (by simp) (by decide) (by simp) rfl)
  exact ⟨z1.B.xk x (by simp) (by decide) (by decide) rfl rfl, z1.Q.x x (by decide) (by simp) (by simp) rfl rfl rfl, z1.K.x x (by decide), hO⟩
theorem HAn.ka {S S' : hS} {bs : List Int32} (h : HAn S bs) (w : KA S S') : HAn S' bs := ⟨by rw [w.i201]; exact h.1, fun j b hb => by rw [w.a8]; exact h.2 j b hb⟩
theorem h_tl_ok {n : Nat} (hn : n ≤ 512) {S : hS} {z : Z} {g : hG} {q u : List Ins} {L : Nat} {es : List (Ins × Bool)} {ts : List Txt} (h : HZ S z g q u L es) (hO : okZ n z) (hO2 : okZ n (setl 250 z q).1) (hL : L < 1999999000) (hA : HAn S []) (hC : HTx S ts) (hM : S.1.length ≤ am_M + 1) (hes : ∀ e ∈ es, e.1.who < z.mem.length ∧ e.1.nm.length = 8 ∧ is36 e.1.nm) {o : Option (Nat × List Nat)} (hk : ∀ k, o = some k → ∃ i ∈ z.ins, i.who = k.1 ∧ i.nm = k.2) (ho : o ≠ none → es = []) : ∃ S' L', h_tl (o.map fun k => g.2.1 k.1 k.2) S = some S' ∧ HZ S' (setl 250 z q).1 g (setl 250 z q).2.1 u L' [] ∧ HTx S' ts ∧ KP S S' ∧ S'.2.1 202 7 = S.2.1 202 7 ∧ S'.1.length = S.1.length ∧ L ≤ L' ∧ L' ≤ L + 251 ∧ HAn S' (txt (okw (setl 250 z q).1 (setl 250 z q).2.2 o) ++ [nI 10] ++ telB z (es ++ tld (setl 250 z q).2.2)) := by
  obtain ⟨S1, L', r1, r2, r3, r4, r5⟩ := h_settleAll hn h hO hL
  have sm := same_setl 250 z q
  have hmem : (setl 250 z q).1.mem = z.mem := sm.mem
  obtain ⟨sb1, sb2⟩ := setl_sub 250 z q
  have hq : ∀ i ∈ q, i ∈ z.ins := fun i hi => ((h.Q.isq.2 i).mp hi).1
  have a1 : HAn S1 [] := hA.ka (KA.ofX r5 (by decide) (by simp))
  have p1 : KP S S1 := KP.ofX r5 (by decide) (by simp)
  have c1 : HTx S1 ts := hC.x hM r5 (by decide) (by decide) (by simp) (by simp) (by decide)
  have hw : (if (o.map fun k => g.2.1 k.1 k.2) = none then (some 2) else (((o.map fun k => g.2.1 k.1 k.2)).bind fun b65 => ((h_De_okOf b65 S1).bind fun q69 => (some q69)))) = some (okw (setl 250 z q).1 (setl 250 z q).2.2 o) := by
    cases o with
    | none => rfl
    | some k =>
      have hes0 : es = [] := ho (by simp)
      rw [if_neg (by simp)]
      show ((h_De_okOf (g.2.1 k.1 k.2) S1).bind fun q69 => some q69) = some (if (setl 250 z q).2.2.any (fun i => decide (i.who = k.1 ∧ i.nm = k.2)) then 3 else match (setl 250 z q).1.opn k.1 k.2 with | some i => if i.wt then 4 else 5 | none => 5)
      obtain ⟨i, i1, i2, i3⟩ := hk k rfl
      cases ha : (setl 250 z q).2.2.any (fun i => decide (i.who = k.1 ∧ i.nm = k.2)) with
      | true =>
        obtain ⟨e, e1, e2⟩ := List.any_eq_true.mp ha
        obtain ⟨e3, e4⟩ := of_decide_eq_true e2
        obtain ⟨t, ht⟩ := List.mem_iff_getElem?.mp e1
        have hrow := r2.O.row t (e, true) (by
          rw [hes0, List.nil_append]
          unfold tld
          rw [List.getElem?_map, ht]; rfl)
        have h704 : S1.2.1 704 (g.2.1 k.1 k.2) = 2 := by
          have := hrow.2.1
          have hx : g.xi e = g.2.1 k.1 k.2 := by unfold hG.xi; rw [e3, e4]
          rw [← hx]; exact this
        unfold h_De_okOf
        rw [h704, if_neg (by decide), if_pos rfl]; rfl
      | false =>
        rcases setl_part 250 z q i i1 with ⟨e, e1, e2, e3⟩ | e1
        · have : (setl 250 z q).2.2.any (fun i => decide (i.who = k.1 ∧ i.nm = k.2)) = true := List.any_eq_true.mpr ⟨e, e1, decide_eq_true ⟨by rw [e2, i2], by rw [e3, i3]⟩⟩
          rw [this] at ha; cases ha
        · have hop := opn_of hO2 e1
          rw [i2, i3] at hop
          have hst := (r2.Q.ins i e1).st
          have hx : g.xi i = g.2.1 k.1 k.2 := by unfold hG.xi; rw [i2, i3]
          rw [hx] at hst
          unfold h_De_okOf
          rw [hst, hop, if_neg (show ¬ (false = true) by decide)]
          show _ = some (if i.wt then 4 else 5)
          cases i.wt
          · rfl
          · rfl
  obtain ⟨S2, l1, l2, l3⟩ := h_line a1 (okw_lt (setl 250 z q).1 (setl 250 z q).2.2 o) (by show 0 + 9 ≤ 6000; omega)
  rw [List.nil_append] at l2
  have o2 := r2.O.x l3 (by decide) (by simp) (by simp)
  have hlen := o2.len
  have tl8 : (txt (okw (setl 250 z q).1 (setl 250 z q).2.2 o)).length ≤ 8 := by
    unfold txt
    split <;> simp
  obtain ⟨S3, t1, t2, t3, t4⟩ := h_tell o2 l2 (by rw [hmem]; exact hO.cod) (fun e he => by
    rw [hmem]
    rcases List.mem_append.mp he with c | c
    · exact hes e c
    · unfold tld at c
      obtain ⟨i, i1, i2⟩ := List.mem_map.mp c
      rw [← i2]
      have ok := hO.oki i (hq i (sb2 i i1))
      exact ⟨ok.who, ok.nm.1, ok.nm.2⟩) (by rw [List.length_append]; show _ + 1 + _ ≤ 6000; omega)
  have x3 : hX [201, 1105] [] [] [8] [] [] S1 S3 := (l3.mono (by decide) (by simp) (by simp) (by simp) (by simp) (by simp)).tr t4
  have tel : telB (setl 250 z q).1 (es ++ tld (setl 250 z q).2.2) = telB z (es ++ tld (setl 250 z q).2.2) := by
    unfold telB evB
    rw [hmem]
  rw [tel] at t2
  refine ⟨S3, L', ?_, r2.tl x3 t3, c1.x (by rw [r5.sh]; exact hM) x3 (by decide) (by simp) (by simp) (fun k hk => Or.inl (by rw [List.mem_singleton] at hk; omega)) (by simp), p1.tr (KP.ofX x3 (by decide) (by decide)), ?_, by rw [x3.sh, r5.sh], r3, r4, t2⟩
  · unfold h_tl
    rw [r1, Option.bind_some, hw, Option.bind_some, l1, Option.bind_some, t1]; rfl
  · rw [x3.ei 202 (by decide), r5.ei 202 (by decide)]
