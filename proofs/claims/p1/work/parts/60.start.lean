/-! THE CLAIM OUT OF ONE WALK OF THE LAW'S BODY. Your part is whole_start (and what it stands on); all else here is the same for every law, but numbers. -/
def R_law : String := "SettlementHouseLaw"
def lw_P (b : Addr) (xs : List Int32) (args : Array Value) (s : State) : Prop := args = #[.ref b] ∧ s.IntsAt b xs ∧ xs.length ≤ 6 ∧ (Jvm.Cond.and given_1 narrow_1).before args s = true
def lw_Q (_ : Array Value) (s : State) (o : Outcome) (t : State) : Prop := o = .returned (some (.int 1)) ∧ Framed s o t [] 600000 7302250
def lw_Z (below : List Frame) (a : Array Value) (s : State) : State → Prop := fun t => ∃ o, t.status = .running ∧ Ended t below o ∧ lw_Q a s o t
/-- the law's own end, with 1 on the stack, nothing written that was there before, its room as the claim has it -/
theorem lw_ret {p : Program} {l : Launch} {e : Env} {s : State} {m : MethodId} {below : List Frame} {meth : Method} {c : Code} {b : Nat} (hx : p.tables.exec = Jvm.exec) (hb : c.code = code) (hr : meth.sig.returnType = ret) (hlocks : meth.locks = false) {pc : Nat} {H : Heap} {ls : Array Slot} (hdg : decode code pc = .ok (.ireturn, 1)) : W p l e room_1 s m #[Value.ref b] below meth c H [] 600000 7302250 (lw_Z below #[Value.ref b] s) (F0 m pc ls [.int 1]) := by
  intro T hT X
  obtain ⟨fs, hret, hrun, hended, hW, hframe⟩ := X.leave (v := some (.int 1)) (hlocks := hlocks) (fun h => by rw [hr] at h; cases h)
  have hmeth' : T.vm.method? m = some meth := X.method'
  refine ⟨T.setFrames fs, ?_, .returned (some (.int 1)), hrun, hended, rfl, ⟨_, rfl⟩, hW, hframe⟩
  jvm_step X.here [X.here.top, hx, hb, hdg, hmeth', hr, ret, narrow_b1]
  (try refine ⟨rfl, ?_⟩); (try refine ⟨rfl, ?_⟩)
  first | (intro acts; rw [hret _ acts rfl rfl rfl]) | rw [hret _ _ rfl rfl rfl]
  exact Steps.refl _
/-- what holds at the law's entry: the machine, the code, the tables' words (any of lw_tbl by 'hts w (by decide +kernel)'), the script of L ints xs at the cell b, what the Statement gives of the start (any of its parts by flat_of_before) -/
def lw_At (p : Program) (s : State) (m : MethodId) (meth : Method) (c : Code) (b L : Nat) (xs : Nat → Int32) : Prop :=
  p.tables.exec = Jvm.exec ∧ c.code = code ∧ meth.sig.returnType = ret ∧ c.maxLocals = 4 ∧ s.vm.findClass R_law = some m.cls ∧ (∀ w ∈ lw_tbl, w.before #[Value.ref b] s = true) ∧ va_X b L xs s s.heap ∧ b < s.heap.size ∧ meth.locks = false ∧ (Jvm.Cond.and given_1 narrow_1).before #[Value.ref b] s = true ∧ meth.name = "law"
theorem kst_l0 : Jvm.Cond.laysStatic "java/util/ArrayList" "DEFAULTCAPACITY_EMPTY_ELEMENTDATA" "[Ljava/lang/Object;" ∈ lw_tbl := List.mem_append_right _ (List.mem_of_getElem? (i := 192) (by decide +kernel))
theorem kst_i0 : Jvm.Cond.initialized "java/util/ArrayList" ∈ lw_tbl := List.mem_append_right _ (List.mem_of_getElem? (i := 9) (by decide +kernel))
theorem kst_l1 : Jvm.Cond.laysStatic "SettlementHouseModel" "NAMES" "[I" ∈ lw_tbl := List.mem_append_right _ (List.mem_of_getElem? (i := 1428) (by decide +kernel))
theorem kst_i1 : Jvm.Cond.initialized "SettlementHouseModel" ∈ lw_tbl := List.mem_append_right _ (List.mem_of_getElem? (i := 12) (by decide +kernel))
theorem kst_l2 : Jvm.Cond.laysStatic "SettlementHouseModel" "FIELDS" "[I" ∈ lw_tbl := List.mem_append_right _ (List.mem_of_getElem? (i := 1430) (by decide +kernel))
theorem kst_i2 : Jvm.Cond.initialized "SettlementHouseModel" ∈ lw_tbl := List.mem_append_right _ (List.mem_of_getElem? (i := 12) (by decide +kernel))
set_option maxHeartbeats 4000000 in
set_option maxRecDepth 100000 in
/-- THE LAW, from its entry: the abstract machine's law, at the addresses that the start gives -/
theorem whole_start {p : Program} {e : Env} {s : State} {m : MethodId} {below : List Frame} {meth : Method} {c : Code} (l : Launch) {b L : Nat} {xs : Nat → Int32} (hL : L ≤ 6) (C0 : lw_At p s m meth c b L xs) : W p l e room_1 s m #[Value.ref b] below meth c s.heap [] 0 0 (lw_Z below #[Value.ref b] s) (entryFrame m ([Value.ref b] : List Value).toArray 4) := by
  obtain ⟨hx, hb, hr, hml, hown, hts, hX, hbl, hlocks, hgv, hnm⟩ := id C0
  have hta : ∀ w ∈ am_ws, w.before #[Value.ref b] s = true := fun w hw => hts w (List.mem_filter.mp hw).1
  have hcl : ∀ k : Nat, ∃ (cC : ClassId) (iS : Nat → Nat), ∀ q : vw_C, am_cls[k]? = some q → u_Kn s q.1 q.2.1 q.2.2 cC iS := by
    intro k
    cases hk : am_cls[k]? with
    | none => exact ⟨0, fun _ => 0, fun q h => by cases h⟩
    | some q =>
      obtain ⟨i1, i2, i3, i4, i5, i6⟩ := am_cok k q hk
      obtain ⟨cC, iS, h⟩ := u_known (ws := am_ws) hta i1 (hta _ i4)
      exact ⟨cC, iS, fun q' h' => by cases h'; exact h⟩
  obtain ⟨dC, hdC⟩ := Classical.axiomOfChoice hcl
  obtain ⟨dI, hdI⟩ := Classical.axiomOfChoice hdC
  have hobj : ∀ C ∈ am_els, ∃ cA : ClassId, ArrOfT s cA (.object C) ∧ va_RA s cA (.object C) := by
    intro C hC
    obtain ⟨comp, c1, k1, h1, h2, h3, h4, h5⟩ := Cond.arrayOver_spec (hts _ (am_els_in C hC))
    exact ⟨c1, fun n z => ⟨(fun k h => by cases h), k1, h3, comp, h4⟩, k1, comp, h3, h4, h1, h5⟩
  have hty : ∀ t : Nat, ∃ cA : ClassId, ∀ ty, am_ty[t]? = some ty → ArrOfT s cA ty ∧ va_RA s cA ty := by
    intro t
    match t with
    | 0 =>
      obtain ⟨cA, kA, comp, hf, hk, hkind⟩ := Cond.arrayClass_spec (hta _ ka_int)
      exact ⟨cA, fun ty h => by cases h; exact ⟨fun n z => ⟨(fun k h => by cases h), kA, hk, comp, hkind⟩, hf⟩⟩
    | 1 =>
      obtain ⟨cA, kA, comp, hf, hk, hkind⟩ := Cond.arrayClass_spec (hta _ ka_long)
      exact ⟨cA, fun ty h => by cases h; exact ⟨fun n z => ⟨(fun k h => by cases h), kA, hk, comp, hkind⟩, hf⟩⟩
    | 2 =>
      obtain ⟨cA, kA, comp, hf, hk, hkind⟩ := Cond.arrayClass_spec (hta _ ka_byte)
      exact ⟨cA, fun ty h => by cases h; exact ⟨fun n z => ⟨(fun k h => by cases h), kA, hk, comp, hkind⟩, hf⟩⟩
    | 3 =>
      obtain ⟨cA, kA, comp, hf, hk, hkind⟩ := Cond.arrayClass_spec (hta _ ka_boolean)
      exact ⟨cA, fun ty h => by cases h; exact ⟨fun n z => ⟨(fun k h => by cases h), kA, hk, comp, hkind⟩, hf⟩⟩
    | 4 =>
      obtain ⟨cA, h⟩ := hobj "SettlementHouse$Participant" (by decide +kernel)
      exact ⟨cA, fun ty e => by cases e; exact h⟩
    | 5 =>
      obtain ⟨cA, h⟩ := hobj "SettlementHouse$Asset" (by decide +kernel)
      exact ⟨cA, fun ty e => by cases e; exact h⟩
    | 6 =>
      obtain ⟨cA, h⟩ := hobj "SettlementHouse$Position" (by decide +kernel)
      exact ⟨cA, fun ty e => by cases e; exact h⟩
    | 7 =>
      obtain ⟨cA, h⟩ := hobj "SettlementHouse$Instruction" (by decide +kernel)
      exact ⟨cA, fun ty e => by cases e; exact h⟩
    | t + 8 => exact ⟨0, fun ty h => by simp [am_ty] at h⟩
  obtain ⟨dA, hdA⟩ := Classical.axiomOfChoice hty
  have hs := flat_of_before _ hgv
  obtain ⟨a0, ha0⟩ := am_aref (hs (.arrayOf (.static "java/util/ArrayList" "DEFAULTCAPACITY_EMPTY_ELEMENTDATA" "[Ljava/lang/Object;") (.object "java/lang/Object")) (by decide +kernel))
  obtain ⟨a1, ha1⟩ := am_aref (hs (.arrayOf (.static "SettlementHouseModel" "NAMES" "[I") .int) (by decide +kernel))
  obtain ⟨a2, ha2⟩ := am_aref (hs (.arrayOf (.static "SettlementHouseModel" "FIELDS" "[I") .int) (by decide +kernel))
  obtain ⟨od, h0, h1, h2, h3⟩ : ∃ od : Nat → Nat, od 0 = b ∧ od 1 = a0 ∧ od 2 = a1 ∧ od 3 = a2 := ⟨fun k => if k = 0 then b else if k = 1 then a0 else if k = 2 then a1 else a2, rfl, rfl, rfl, rfl⟩
  obtain ⟨g, hg⟩ : ∃ g : am_G, g = (s.heap.size, od, s.heap, (dC, dI), dA) := ⟨_, rfl⟩
  have hA : ∀ a : Nat, a < s.heap.size → ¬ am_A g a := by intro a h q; rw [hg] at q; exact absurd h (Nat.not_lt.mpr q)
  have K : am_K g (some (L, xs)) s := by
    refine ⟨⟨fun c q h => ?_, fun k q h => ?_⟩, ?_, fun q h => ?_, ?_, fun C hC => va_AO.of (hts _ (am_els_in C hC)), fun w hw => va_Nw.of (am_nws_on w hw) (hts w (am_nws_in w hw)), fun k q h => ?_⟩
    · rw [hg]; exact hdI c q h
    · unfold am_t at h
      rw [List.getElem?_mapIdx] at h
      cases hk : am_ty[k]? with
      | none => rw [hk] at h; cases h
      | some ty =>
        rw [hk] at h
        cases h
        rw [hg]
        exact hdA k ty hk
    · rw [hg]
    · cases h
      rw [hg]
      show va_X (od 0) L xs s s.heap
      rw [h0]; exact hX
    · rw [hg]
      show od 0 < s.heap.size
      rw [h0]; exact hbl
    · have hz : ∀ (C n d : String) (a : Nat), Jvm.Cond.laysStatic C n d ∈ lw_tbl → Jvm.Cond.initialized C ∈ lw_tbl → (Term.static C n d).eval #[Value.ref b] s none [] s = some (.ref a) → va_Z C n d (.ref a) (am_A g) s g.2.2.1 := by
        intro C n d a q1 q2 q3
        rw [show g.2.2.1 = s.heap by rw [hg]]
        exact va_Zref (hts _ q1) (hts _ q2) q3 hA
      have e1 : g.2.1 1 = a0 := by rw [hg]; exact h1
      have e2 : g.2.1 2 = a1 := by rw [hg]; exact h2
      have e3 : g.2.1 3 = a2 := by rw [hg]; exact h3
      match k, h with
      | 0, h => cases h; rw [e1]; exact hz _ _ _ _ kst_l0 kst_i0 ha0
      | 1, h => cases h; rw [e2]; exact hz _ _ _ _ kst_l1 kst_i1 ha1
      | 2, h => cases h; rw [e3]; exact hz _ _ _ _ kst_l2 kst_i2 ha2
      | k + 3, h => simp [am_sts] at h
  have hrb : am_r g 16777216 = b := by
    show am_r g am_M = b
    unfold am_r
    rw [if_neg (Nat.lt_irrefl _), Nat.sub_self, hg]
    exact h0
  have hW : am_Wd g [] s.heap [] := by
    refine ⟨Nat.zero_le _, by rw [hg]; rfl, fun k q h => by simp [am_w] at h, ?_⟩
    rw [hg]
    exact va_S.rf
  have hL0 := am_en_L (am_r g) 4 [.ref 16777216] (by decide)
  have eM : ([Value.ref 16777216]).map (am_v (am_r g)) = [Value.ref b] := by
    show [Value.ref (am_r g 16777216)] = _
    rw [hrb]
  rw [eM] at hL0
  rw [lg_entry_eq]
  refine law_S L hL xs hd_La_law rfl p l e room_1 s m #[Value.ref b] below meth c g (lw_Z below #[Value.ref b] s) ⟨hx, hb, hml, hown, hta, hta _ ksf_ws, hr, hlocks, hnm⟩ K rfl rfl rfl rfl ?_ s.heap [] _ hW hL0
  intro r h' hq H' locs' k n pc ls hW' hk hn hrt
  subst hq
  refine va_forget (fun q hq => ?_) (W.widen hk hn (lw_ret hx hb hr hlocks hrt.2))
  have := hW'.2.2.2.2.2 q hq
  rw [hg] at this
  exact this
