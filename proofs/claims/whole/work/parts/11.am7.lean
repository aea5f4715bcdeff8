/-! Calls and entries. -/
def am_fl (vs : List Value) : am_Lo := vs.flatMap fun v => if v.category = 2 then [some v, none] else [some v]
def am_en (n : Nat) (vs : List Value) : am_Lo := am_fl vs ++ List.replicate (n - (am_fl vs).length) none
theorem am_fl_len (r : Nat → Nat) (vs : List Value) : (lg_sl (vs.map (am_v r))).length = (am_fl vs).length := by
  induction vs with
  | nil => rfl
  | cons v t ih =>
    simp only [lg_sl, am_fl, List.map_cons, List.flatMap_cons, List.length_append, am_v_cat] at ih ⊢
    rw [ih]
    split <;> rfl
theorem am_fl_get (r : Nat → Nat) (n : Nat) (vs : List Value) : ∀ (i : Nat) (v : Value), (am_fl vs ++ List.replicate n none)[i]? = some (some v) → (lg_sl (vs.map (am_v r)) ++ List.replicate n Slot.unset)[i]? = some (.val (am_v r v)) := by
  induction vs with
  | nil =>
    intro i v h
    simp only [am_fl, List.flatMap_nil, List.nil_append, List.getElem?_replicate] at h
    split at h <;> cases h
  | cons w t ih =>
    intro i v h
    simp only [lg_sl, am_fl, List.map_cons, List.flatMap_cons, am_v_cat, List.append_assoc] at ih h ⊢
    by_cases hc : w.category = 2
    · rw [if_pos hc] at h ⊢
      match i, h with
      | 0, h => cases h; rfl
      | 1, h => cases h
      | i + 2, h => exact ih i v h
    · rw [if_neg hc] at h ⊢
      match i, h with
      | 0, h => cases h; rfl
      | i + 1, h => exact ih i v h
theorem am_en_L (r : Nat → Nat) (n : Nat) (vs : List Value) (hn : (am_fl vs).length ≤ n) : am_L r (am_en n vs) ((lg_sl (vs.map (am_v r)) ++ List.replicate (n - (lg_sl (vs.map (am_v r))).length) Slot.unset).toArray) n := by
  have hl := lv_entry (vs.map (am_v r)) (n := n) (by rw [am_fl_len]; exact hn)
  refine ⟨by simp [am_en]; omega, hl.1, hl.2.1, fun i v h => ?_⟩
  rw [List.getElem?_toArray, am_fl_len]
  exact am_fl_get r _ vs i v h
def am_Qc (g : am_G) (Q : Option Value → am_H → Prop) : Array Value → State → Outcome → State → Prop := fun _ _ o t => ∃ (r : Option Value) (h' : am_H), Q r h' ∧ o = .returned (r.map (am_v (am_r g))) ∧ am_Wd g h' t.heap []
def am_Pc (g : am_G) (sc : am_Sc) (h : am_H) (args : List Value) : Array Value → State → Prop := va_Pc (args.map (am_v (am_r g))) (fun U => am_K g sc U ∧ am_Wd g h U.heap [])
/-- a method's contract: called with these arguments on these cells it comes back with Q, having made at most mc cells of ms slots -/
def am_Me (P : am_P) (sc : am_Sc) (F L mc ms j : Nat) (args : List Value) (h : am_H) (Q : Option Value → am_H → Prop) : Prop :=
  ∀ (l : Launch) (g : am_G) (d : am_Hd), P.2 j = some d → Met l d.1 (.code d.1 d.2.1 d.2.2.1 d.2.2.2.1 :: am_ws) { frames := F, cells := mc, slots := ms, locals := L } (am_Pc g sc h args) (am_Qc g Q) mc ms (am_A g)
theorem am_Me_none {P : am_P} {sc : am_Sc} {F L mc ms j : Nat} {args : List Value} {h : am_H} {Q : Option Value → am_H → Prop} (hM : am_Me P none F L mc ms j args h Q) : am_Me P sc F L mc ms j args h Q := by
  intro l g d hd
  have h1 := hM l g d hd
  intro p e ha hc hk s m as below hf hfit hpre hkk
  exact h1 p e ha hc hk s m as below hf hfit ⟨hpre.1, am_K_none hpre.2.1, hpre.2.2⟩ hkk
theorem am_Wd_nil {g : am_G} {h : am_H} {H : Heap} {locs : List Loc} (hW : am_Wd g h H locs) : am_Wd g h H [] := ⟨hW.1, hW.2.1, hW.2.2.1, hW.2.2.2.1, hW.2.2.2.2.1, fun q hq => by cases hq⟩
section AM5
variable {P : am_P} {sc : am_Sc} {F L mc ms j : Nat} {x x' : am_St} {Q : Option Value → am_H → Prop}
theorem am_enter {d : am_Hd} (hd : P.2 j = some d) (hpl : plainName d.1.cls = true) {args : List Value} {h : am_H} (hn : (am_fl args).length ≤ d.2.2.1) (hS : am_S P sc F L mc ms j (0, am_en d.2.2.1 args, [], h, 0, 0) Q) : am_Me P sc F L mc ms j args h Q := by
  intro l g d' hd'
  obtain rfl : d = d' := Option.some.inj (hd.symm.trans hd')
  refine Met.ofW (cc := d.2.1) (maxL := d.2.2.1) (ret := d.2.2.2.1) hpl rfl ?_
  intro p e s m as below meth c s₁ B hml hv
  obtain ⟨rfl, hK, hW⟩ := hv
  rw [lg_entry_eq]
  have hts := atoms_spec (ws := .code d.1 d.2.1 d.2.2.1 d.2.2.2.1 :: am_ws) B.pre
  have hx := B.exec
  have hb := B.bytes
  have hr := B.returns
  have hlocks := B.notSynchronized
  refine hS d hd p l e _ s m _ below meth c g _ ⟨hx, hb, hml, findClass_of_methodNamed B.named, fun w hw => hts w (List.mem_cons_of_mem _ hw), hts _ (List.mem_cons_of_mem _ ksf_ws), hr, hlocks, (name_of_methodNamed B.named B.method).1⟩ hK rfl rfl rfl rfl ?_ s.heap [] _ hW (am_en_L (am_r g) d.2.2.1 args hn)
  intro r h' hq H' locs' k n pc ls hW' hk hn' hrt
  refine W.widen hk hn' ?_
  have hfree : ∀ q ∈ locs', am_A g q.base := hW'.2.2.2.2.2
  have hpost : ∀ t : State, t.heap = H' → s.WarmedH t.vm → am_Qc g Q (args.map (am_v (am_r g))).toArray s (.returned (r.map (am_v (am_r g)))) t := fun t ht _ => ⟨r, h', hq, rfl, by rw [ht]; exact am_Wd_nil hW'⟩
  match r, hrt, hpost with
  | none, hrt, hpost => exact W.vret hx hb (hr.trans hrt.1) hpost hfree hrt.2
  | some (.int v), hrt, hpost =>
    obtain ⟨⟨ty, h1, h2⟩, h3⟩ := hrt
    exact W.zret hx hb (hr.trans h1) h2 hpost hfree h3
  | some (.long v), hrt, hpost => exact W.lret hx hb (hr.trans hrt.1) hpost hfree hrt.2
  | some (.ref v), hrt, hpost =>
    obtain ⟨⟨ty, h1, h2⟩, h3⟩ := hrt
    exact W.aret hx hb (hr.trans h1) h2 (Or.inr ⟨_, rfl⟩) hpost hfree h3
  | some .null, hrt, hpost =>
    obtain ⟨⟨ty, h1, h2⟩, h3⟩ := hrt
    exact W.aret hx hb (hr.trans h1) h2 (Or.inl rfl) hpost hfree h3
/-- a call at this place: the method, its arguments, what is left on the stack -/
def am_cf (P : am_P) (j : Nat) (x : am_St) : Option (Nat × List Value × List Value) := (P.1 j x.1).bind fun i => (P.2 i.2.2.2.1).bind fun d =>
  if (x.2.2.1.take d.2.2.2.2.2.1).length = d.2.2.2.2.2.1 then
    match i.1 with
    | .invokevirtual _ => (am_popR (x.2.2.1.drop d.2.2.2.2.2.1)).bind fun q => if am_oc x.2.2.2.1 q.1 = some d.2.2.2.2.2.2.1 ∧ am_cat q.2 ≤ 8 then some (i.2.2.2.1, .ref q.1 :: (x.2.2.1.take d.2.2.2.2.2.1).reverse, q.2) else none
    | .invokespecial _ => if i.2.2.2.1 = am_oi then none else (am_popR (x.2.2.1.drop d.2.2.2.2.2.1)).bind fun q => if am_cat q.2 ≤ 8 then some (i.2.2.2.1, .ref q.1 :: (x.2.2.1.take d.2.2.2.2.2.1).reverse, q.2) else none
    | .invokestatic _ => if am_cat (x.2.2.1.drop d.2.2.2.2.2.1) ≤ 8 then some (i.2.2.2.1, (x.2.2.1.take d.2.2.2.2.2.1).reverse, x.2.2.1.drop d.2.2.2.2.2.1) else none
    | _ => none
  else none
theorem am_goes {p : Program} {l : Launch} {e : Env} {R : Room} {s : State} {m : MethodId} {args : Array Value} {below : List Frame} {meth : Method} {c : Code} {H : Heap} {locs : List Loc} {k n pc mc' ms' : Nat} {Z : State → Prop} {g : am_G} {h : am_H} {ls : Array Slot} {st0 rest : List Value} {a : Array Value}
    (hr : CallRun p l e R s m args below meth c H locs k n mc' ms' (F0 m pc ls st0) rest (am_Qc g Q a) (am_A g)) (hW : am_Wd g h H locs)
    (kk : ∀ (r : Option Value) (h' : am_H), Q r h' → ∀ (H1 : Heap) (locs1 : List Loc), am_Wd g h' H1 locs1 → W p l e R s m args below meth c H1 locs1 (k + mc') (n + ms') Z (F0 m (pc + 3) ls ((r.map (am_v (am_r g))).toList ++ rest))) : W p l e R s m args below meth c H locs k n Z (F0 m pc ls st0) := by
  intro T hT X
  obtain ⟨v, st₀, t, T', L, h0, X', hL, e1, hq, st⟩ := hr T hT X
  obtain ⟨r, h', hQ, hv, hWd⟩ := hq
  cases hv
  obtain ⟨t2, a1, b1⟩ := kk r h' hQ T'.heap (locs ++ L) (by
    rw [e1]
    refine ⟨hWd.1, hWd.2.1, hWd.2.2.1, hWd.2.2.2.1, hWd.2.2.2.2.1, fun q hq => ?_⟩
    rcases List.mem_append.mp hq with z | z
    · exact hW.2.2.2.2.2 q z
    · exact hL q z) T' rfl X'
  exact ⟨t2, st t2 a1, b1⟩
theorem am_good (d : am_Hd) (h : Jvm.Cond.code d.1 d.2.1 d.2.2.1 d.2.2.2.1 ∈ am_ws) : GoodIn am_ws (.code d.1 d.2.1 d.2.2.1 d.2.2.2.1 :: am_ws) := by
  intro w hw
  have h1 : w ∈ am_ws := (List.mem_cons.mp hw).elim (fun q => by rw [q]; exact h) id
  exact ⟨h1, good_of_word (List.mem_filter.mp h1).2⟩
set_option maxHeartbeats 4000000 in
theorem am_call (ok : am_ok P j) {j' F' L' mc' ms' : Nat} (okh : am_hok P j') {d' : am_Hd} (hd' : P.2 j' = some d') {args' rest : List Value} {Q1 : Option Value → am_H → Prop} (hc : am_cf P j x = some (j', args', rest)) (hM : am_Me P sc F' L' mc' ms' j' args' x.2.2.2.1 Q1)
    (hF : F' + 1 ≤ F) (hL : 8 + (d'.2.2.1 + 11) + L' ≤ L) (hmc : x.2.2.2.2.1 + mc' ≤ mc) (hms : x.2.2.2.2.2 + ms' ≤ ms)
    (kk : ∀ (r : Option Value) (h' : am_H), Q1 r h' → am_S P sc F L mc ms j (x.1 + 3, x.2.1, r.toList ++ rest, h', x.2.2.2.2.1 + mc', x.2.2.2.2.2 + ms') Q) : am_S P sc F L mc ms j x Q := by
  intro d hd p l e R s m args below meth c g Z hC hK h1 h2 h3 h4 hZ H locs ls hW hLo
  obtain ⟨d0, hd0, hi⟩ := ok
  obtain rfl : d = d0 := Option.some.inj (hd.symm.trans hd0)
  have kk2 : ∀ (r : Option Value) (h' : am_H), Q1 r h' → ∀ (H1 : Heap) (locs1 : List Loc), am_Wd g h' H1 locs1 → W p l e R s m args below meth c H1 locs1 (x.2.2.2.2.1 + mc') (x.2.2.2.2.2 + ms') Z (F0 m (x.1 + 3) ls ((r.map (am_v (am_r g))).toList ++ rest.map (am_v (am_r g)))) := by
    intro r h' hq H1 locs1 hW1
    have z := kk r h' hq d hd p l e R s m args below meth c g Z hC hK h1 h2 h3 h4 hZ H1 locs1 ls hW1 hLo
    have e1 : (r.toList ++ rest).map (am_v (am_r g)) = (r.map (am_v (am_r g))).toList ++ rest.map (am_v (am_r g)) := by cases r <;> rfl
    rw [← e1]; exact z
  obtain ⟨hx, hb, hml, hown, hts, hsf, hr, hlk, hnm⟩ := hC
  obtain ⟨i, hP, hc1⟩ := Option.bind_eq_some_iff.mp hc
  clear hc
  obtain ⟨d1, hd1, hc⟩ := Option.bind_eq_some_iff.mp hc1
  clear hc1
  have hck := hi x.1 i hP
  unfold am_ick at hck
  simp only [Bool.and_eq_true, decide_eq_true_eq, Bool.or_eq_true, beq_iff_eq] at hck
  obtain ⟨c1, c2, c3, c4, c5⟩ := hck
  have hMM := fun (z : P.2 j' = some d') => hM l g d' z
  split at hc
  · rename_i htl
    obtain ⟨dh, hdh, hh⟩ := okh
    obtain rfl : d' = dh := Option.some.inj (hd'.symm.trans hdh)
    unfold am_hck at hh
    simp only [Bool.and_eq_true, decide_eq_true_eq] at hh
    obtain ⟨p1, p2, p3, p4, p5, p6⟩ := hh
    have hcat : ∀ t : List Value, am_cat t ≤ 8 → 2 * (F0 m x.1 ls (x.2.2.1.map (am_v (am_r g)))).monitorRoom + ((t.map (am_v (am_r g))).map fun v => v.category).sum ≤ 8 := by
      intro t ht
      refine lv_room ?_
      rw [List.map_map]
      have : ((fun v : Value => v.category) ∘ am_v (am_r g)) = fun v => v.category := funext fun v => am_v_cat _ v
      rw [this]; exact ht
    have hR : ({ frames := F', cells := mc', slots := ms', locals := L' } : Room).frames + 1 ≤ R.frames ∧ 8 + (d'.2.2.1 + 11) + ({ frames := F', cells := mc', slots := ms', locals := L' } : Room).locals ≤ R.locals := ⟨by rw [h1]; exact hF, by rw [h2]; exact hL⟩
    have hfit : x.2.2.2.2.1 + mc' ≤ R.cells ∧ x.2.2.2.2.2 + ms' ≤ R.slots := ⟨by rw [h3]; exact hmc, by rw [h4]; exact hms⟩
    have hpre : ∀ As : List Value, As = args'.map (am_v (am_r g)) → PreS s H (am_Pc g sc x.2.2.2.1 args') As := by
      intro As hAs
      refine ⟨fun a U f mk q => ?_, fun U hU hWm => ?_⟩
      · obtain ⟨q0, q1, q2⟩ := q
        exact ⟨q0, am_K_call f mk a q1, q2⟩
      · exact ⟨by rw [hAs], am_K_warm hWm hK, by rw [hU]; exact am_Wd_nil hW⟩
    split at hc
    · rename_i idx hii
      obtain ⟨⟨ad, t⟩, q1, hc2⟩ := Option.bind_eq_some_iff.mp hc
      clear hc
      dsimp only at hc2
      split at hc2
      · rename_i hcond
        obtain ⟨e1, e20⟩ := Prod.mk.inj (Option.some.inj hc2)
        obtain ⟨e2, e3⟩ := Prod.mk.inj e20
        clear e20 hc2
        subst e3
        rw [e1, hd'] at hd1
        obtain rfl := Option.some.inj hd1
        have est := am_popR_eq q1
        rw [hii] at c1 c2 c5
        have c2 := c2.resolve_left (fun q => Bool.noConfusion q)
        rw [c2] at c1
        have c5' : am_kck P d.1.cls (.invokevirtual idx) i.2.2.1 i.2.2.2.1 i.2.2.2.2 = true := c5
        unfold am_kck at c5'
        rw [e1, hd'] at c5'
        simp only [Bool.and_eq_true, beq_iff_eq] at c5'
        have hk0 := c5'.2
        rw [hk0] at p6
        simp only [Bool.and_eq_true] at p6
        obtain ⟨p7, p8, p9⟩ := p6
        obtain ⟨qc, hqc, hqn⟩ := am_cw_eq p9
        rw [beq_iff_eq] at hqn
        obtain ⟨fs, hob⟩ := am_oc_eq hcond.1
        have hrecv := va_recv (q0 := ad) hK.1 hW.2.2.1 hqc (by rw [am_w_get, hob]; rfl)
        have hG : GoodIn am_ws (wsV d.1.cls idx qc.1 d'.1 (.code d'.1 d'.2.1 d'.2.2.1 d'.2.2.2.1 :: am_ws)) := by
          intro w hw
          have hw2 : w ∈ am_ws := by
            unfold wsV at hw
            rcases List.mem_append.mp hw with z | z
            · simp only [List.mem_cons, List.not_mem_nil, or_false] at z
              rcases z with rfl | rfl | rfl | rfl
              · exact am_wd_in c5'.1
              · exact am_wd_in p7
              · rw [hqn]; exact am_wd_in p8
              · rw [hqn]; exact am_wd_in p5
            · exact (am_good d' (am_wd_in p4) w z).1
          exact ⟨hw2, good_of_word (List.mem_filter.mp hw2).2⟩
        have hpr := hpre (args'.map (am_v (am_r g))) rfl
        rw [← e2] at hpr
        have hrun := W.runV (H := H) (locs := locs) (rest := t.map (am_v (am_r g))) (b := am_r g ad) (As := ((x.2.2.1.take d'.2.2.2.2.2.1).reverse).map (am_v (am_r g))) (g := F0 m x.1 ls (x.2.2.1.map (am_v (am_r g)))) (below := below) (e := e) (meth := meth) (cells := x.2.2.2.2.1) (slots := x.2.2.2.2.2) ⟨hx, hb, hml, hown, hts⟩ (hMM hd') (cwV d'.2.2.2.2.2.1 hts hG rfl rfl rfl ⟨hqn.symm, p2.1, p2.2, p3⟩ hR) ⟨by rw [← e2]; exact hpr.1, hrecv, by rw [← e2]; exact hpr.2⟩ rfl (by simpa using htl) hLo.2.1 ?_ (hcat t hcond.2) c1 hfit
        · exact am_goes hrun hW kk2
        · show x.2.2.1.map (am_v (am_r g)) = _
          conv => lhs; rw [← List.take_append_drop d'.2.2.2.2.2.1 x.2.2.1, est]
          simp [am_v]
      · cases hc2
    · rename_i idx hii
      split at hc
      · cases hc
      rename_i hnoi
      obtain ⟨⟨ad, t⟩, q1, hc2⟩ := Option.bind_eq_some_iff.mp hc
      clear hc
      dsimp only at hc2
      split at hc2
      · rename_i hcond
        obtain ⟨e1, e20⟩ := Prod.mk.inj (Option.some.inj hc2)
        obtain ⟨e2, e3⟩ := Prod.mk.inj e20
        clear e20 hc2
        subst e3
        rw [e1] at hnoi
        rw [e1, hd'] at hd1
        obtain rfl := Option.some.inj hd1
        have est := am_popR_eq q1
        rw [hii] at c1 c2 c5
        have c2 := c2.resolve_left (fun q => Bool.noConfusion q)
        rw [c2] at c1
        have c5' : am_kck P d.1.cls (.invokespecial idx) i.2.2.1 i.2.2.2.1 i.2.2.2.2 = true := c5
        unfold am_kck at c5'
        dsimp only at c5'
        rw [e1, if_neg hnoi, hd'] at c5'
        simp only [Bool.and_eq_true, beq_iff_eq] at c5'
        have hk0 := c5'.1
        rw [hk0] at p6
        simp only [Bool.and_eq_true, beq_iff_eq] at p6
        obtain ⟨p7, p8, p9⟩ := p6
        have hpr := hpre (args'.map (am_v (am_r g))) rfl
        rw [← e2] at hpr
        have hstk : x.2.2.1.map (am_v (am_r g)) = (((x.2.2.1.take d'.2.2.2.2.2.1).reverse).map (am_v (am_r g))).reverse ++ .ref (am_r g ad) :: t.map (am_v (am_r g)) := by
          conv => lhs; rw [← List.take_append_drop d'.2.2.2.2.2.1 x.2.2.1, est]
          simp [am_v]
        have hMM2 := hMM hd'
        rw [p9] at hMM2
        have hG := am_good d' (am_wd_in p4)
        rw [p9] at hG
        by_cases hc1 : i.2.2.2.2 = 1
        · have hw := c5'.2
          rw [if_pos hc1] at hw
          have hw := of_decide_eq_true hw
          have hrun := va_runIN (H := H) (locs := locs) (rest := t.map (am_v (am_r g))) (b := am_r g ad) (As := ((x.2.2.1.take d'.2.2.2.2.2.1).reverse).map (am_v (am_r g))) (g := F0 m x.1 ls (x.2.2.1.map (am_v (am_r g)))) (below := below) (e := e) (meth := meth) (cells := x.2.2.2.2.1) (slots := x.2.2.2.2.2) ⟨hx, hb, hml, hown, hts⟩ hMM2 ⟨va_cnB d'.2.2.2.2.2.1 hts hG rfl rfl rfl (hK.2.2.2.2.2.1 _ hw) (hts _ (am_wd_in p5)) ⟨p2.1, p2.2, p3⟩ hR, p8, hts _ (am_wd_in p7)⟩ ⟨by rw [← e2]; exact hpr.1, by rw [← e2]; exact hpr.2⟩ rfl (by simpa using htl) hLo.2.1 hstk (hcat t hcond) c1 hfit
          have hrun2 : CallRun p l e R s m args below meth c H locs x.2.2.2.2.1 x.2.2.2.2.2 mc' ms' (F0 m x.1 ls (x.2.2.1.map (am_v (am_r g)))) (t.map (am_v (am_r g))) (am_Qc g Q1 #[]) (am_A g) := by
            intro T hT X
            obtain ⟨v, st₀, t2, T', Lq, z1, z2, z3, z4, z5, z6, z7⟩ := hrun T hT X
            exact ⟨v, st₀, t2, T', Lq, z1, z2, z3, z4, z6, z7⟩
          exact am_goes hrun2 hW kk2
        · have hw := c5'.2
          rw [if_neg hc1] at hw
          have hrun := W.runI (H := H) (locs := locs) (rest := t.map (am_v (am_r g))) (b := am_r g ad) (As := ((x.2.2.1.take d'.2.2.2.2.2.1).reverse).map (am_v (am_r g))) (g := F0 m x.1 ls (x.2.2.1.map (am_v (am_r g)))) (below := below) (e := e) (meth := meth) (cells := x.2.2.2.2.1) (slots := x.2.2.2.2.2) ⟨hx, hb, hml, hown, hts⟩ hMM2 ⟨callB_of d'.2.2.2.2.2.1 hts hG rfl rfl rfl (hts _ (am_wd_in p5)) (hts _ (am_wd_in hw)) ⟨p2.1, p2.2, p3⟩ hR, p8, hts _ (am_wd_in p7)⟩ ⟨by rw [← e2]; exact hpr.1, by rw [← e2]; exact hpr.2⟩ rfl (by simpa using htl) hLo.2.1 hstk (hcat t hcond) c1 hfit
          exact am_goes hrun hW kk2
      · cases hc2
    · rename_i idx hii
      split at hc
      · rename_i hcond
        obtain ⟨e1, e20⟩ := Prod.mk.inj (Option.some.inj hc)
        obtain ⟨e2, e3⟩ := Prod.mk.inj e20
        clear e20 hc
        subst e3
        rw [e1, hd'] at hd1
        obtain rfl := Option.some.inj hd1
        rw [hii] at c1 c2 c5
        have c2 := c2.resolve_left (fun q => Bool.noConfusion q)
        rw [c2] at c1
        have c5' : am_kck P d.1.cls (.invokestatic idx) i.2.2.1 i.2.2.2.1 i.2.2.2.2 = true := c5
        unfold am_kck at c5'
        rw [e1, hd'] at c5'
        simp only [Bool.and_eq_true, beq_iff_eq] at c5'
        have hk0 := c5'.2
        rw [hk0] at p6
        have hpr := hpre (args'.map (am_v (am_r g))) rfl
        rw [← e2] at hpr
        have hrun := W.runS (H := H) (locs := locs) (rest := (x.2.2.1.drop d'.2.2.2.2.2.1).map (am_v (am_r g))) (As := ((x.2.2.1.take d'.2.2.2.2.2.1).reverse).map (am_v (am_r g))) (g := F0 m x.1 ls (x.2.2.1.map (am_v (am_r g)))) (below := below) (e := e) (meth := meth) (cells := x.2.2.2.2.1) (slots := x.2.2.2.2.2) ⟨hx, hb, hml, hown, hts⟩ (hMM hd') ⟨callB_of d'.2.2.2.2.2.1 hts (am_good d' (am_wd_in p4)) rfl rfl rfl (hts _ (am_wd_in p5)) (hts _ (am_wd_in c5'.1)) ⟨p2.1, p2.2, p3⟩ hR, hts _ (am_wd_in p6)⟩ ⟨by rw [← e2]; exact hpr.1, by rw [← e2]; exact hpr.2⟩ rfl (by simpa using htl) hLo.2.1 ?_ (hcat _ hcond) c1 hfit
        · exact am_goes hrun hW kk2
        · show x.2.2.1.map (am_v (am_r g)) = _
          conv => lhs; rw [← List.take_append_drop d'.2.2.2.2.2.1 x.2.2.1]
          simp
      · cases hc
    · cases hc
  · cases hc
end AM5
