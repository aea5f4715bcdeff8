/-! The machine's rows over locals and stack are the kit's rows, under a renaming r of addresses. -/
def am_v (r : Nat → Nat) : Value → Value
  | .ref a => .ref (r a)
  | v => v
theorem am_v_cat (r : Nat → Nat) (v : Value) : (am_v r v).category = v.category := by cases v <;> rfl
theorem am_v_rf (r : Nat → Nat) (x : Option Nat) : am_v r (va_rf x) = va_rf (x.map r) := by cases x <;> rfl
def am_len (i : Instr) : Nat := match i with
  | .bipush _ => 2
  | .sipush _ => 3
  | .iload _ => 2
  | .lload _ => 2
  | .aload _ => 2
  | .istore _ => 2
  | .lstore _ => 2
  | .astore _ => 2
  | .iinc _ _ => 3
  | .goto _ => 3
  | .if_icmp _ _ => 3
  | .ifCond _ _ => 3
  | .if_acmp _ _ => 3
  | .ifnull _ => 3
  | .ifnonnull _ => 3
  | .getfield _ => 3
  | .putfield _ => 3
  | .getstatic _ => 3
  | .new _ => 3
  | .newarray _ => 2
  | .anewarray _ => 3
  | .checkcast _ => 3
  | .ldc _ => 2
  | .ldc_w _ => 3
  | .ldc2_w _ => 3
  | .invokevirtual _ => 3
  | .invokespecial _ => 3
  | .invokestatic _ => 3
  | _ => 1
def am_L (r : Nat → Nat) (lo : am_Lo) (ls : Array Slot) (nL : Nat) : Prop := lo.length = nL ∧ ls.size = nL ∧ lv_wf ls ∧ ∀ (i : Nat) (v : Value), lo[i]? = some (some v) → ls[i]? = some (.val (am_v r v))
def am_lv (r : Nat → Nat) (lo : am_Lo) : List (Nat × Value) := (lo.mapIdx (fun i o => (i, o))).filterMap (fun q => q.2.map (fun v => (q.1, am_v r v)))
theorem am_lv_mem {r : Nat → Nat} {lo : am_Lo} {i : Nat} {v : Value} (h : lo[i]? = some (some v)) : (i, am_v r v) ∈ am_lv r lo := by
  refine List.mem_filterMap.mpr ⟨(i, some v), ?_, rfl⟩
  exact List.mem_of_getElem? (i := i) (by rw [List.getElem?_mapIdx, h]; rfl)
theorem am_lv_of {r : Nat → Nat} {lo : am_Lo} {q : Nat × Value} (h : q ∈ am_lv r lo) : ∃ v, lo[q.1]? = some (some v) ∧ q.2 = am_v r v := by
  obtain ⟨⟨i, o⟩, h1, h2⟩ := List.mem_filterMap.mp h
  obtain ⟨k, hk⟩ := List.getElem?_of_mem h1
  rw [List.getElem?_mapIdx] at hk
  cases ho : lo[k]? with
  | none => rw [ho] at hk; cases hk
  | some o' =>
    rw [ho] at hk
    cases hk
    cases o with
    | none => cases h2
    | some v => cases h2; exact ⟨v, ho, rfl⟩
theorem am_L_has {r : Nat → Nat} {lo : am_Lo} {ls : Array Slot} {nL : Nat} (h : am_L r lo ls nL) : lv_has ls nL (am_lv r lo) := by
  refine ⟨h.2.1, h.2.2.1, fun q hq => ?_⟩
  obtain ⟨v, h1, h2⟩ := am_lv_of hq
  rw [h2]
  exact h.2.2.2 q.1 v h1
theorem am_cut_len (lo : am_Lo) (i : Nat) : (am_cut lo i).length = lo.length := by
  cases i with
  | zero => rfl
  | succ k =>
    simp only [am_cut]
    split
    · split
      · simp
      · rfl
    · rfl
theorem am_cut_get {lo : am_Lo} {i j : Nat} {w : Value} (h : (am_cut lo i)[j]? = some (some w)) : lo[j]? = some (some w) ∧ ¬ (j + 1 = i ∧ w.category = 2) := by
  cases i with
  | zero => exact ⟨h, fun q => by omega⟩
  | succ k =>
    simp only [am_cut] at h
    split at h
    · rename_i w' hw
      split at h
      · by_cases hj : j = k
        · subst hj
          rw [List.getElem?_set] at h
          simp at h
        · rw [List.getElem?_set_ne (fun q => hj q.symm)] at h
          exact ⟨h, fun q => hj (by omega)⟩
      · rename_i hc
        refine ⟨h, fun q => ?_⟩
        have hj : j = k := by omega
        subst hj
        rw [hw] at h
        cases h
        exact hc q.2
    · rename_i hno
      refine ⟨h, fun q => ?_⟩
      have hj : j = k := by omega
      subst hj
      exact hno w h
theorem am_L_1 {r : Nat → Nat} {lo : am_Lo} {ls ls' : Array Slot} {nL i : Nat} {v : Value} (h : am_L r lo ls nL) (hi : i < lo.length) (h' : lv_has ls' nL ((i, am_v r v) :: (am_lv r lo).filter (fun q => !(q.1 == i) && !(q.1 + 1 == i && q.2.category == 2)))) : am_L r (am_sl1 lo i v) ls' nL := by
  refine ⟨by rw [am_sl1, List.length_set, am_cut_len]; exact h.1, h'.1, h'.2.1, fun j w hj => ?_⟩
  unfold am_sl1 at hj
  by_cases hji : j = i
  · subst hji
    rw [List.getElem?_set_self (by rw [am_cut_len]; exact hi)] at hj
    obtain rfl := Option.some.inj (Option.some.inj hj)
    exact h'.2.2 (j, am_v r v) List.mem_cons_self
  · rw [List.getElem?_set_ne (fun q => hji q.symm)] at hj
    obtain ⟨h1, h2⟩ := am_cut_get hj
    refine h'.2.2 (j, am_v r w) (List.mem_cons_of_mem _ (List.mem_filter.mpr ⟨am_lv_mem h1, ?_⟩))
    have a1 : (j == i) = false := by simpa using hji
    have a2 : (j + 1 == i && (am_v r w).category == 2) = false := by
      rw [am_v_cat]
      cases hb : (j + 1 == i && w.category == 2) with
      | false => rfl
      | true =>
        simp only [Bool.and_eq_true, beq_iff_eq] at hb
        exact absurd hb h2
    show (!(j == i) && !(j + 1 == i && (am_v r w).category == 2)) = true
    rw [a1, a2]; rfl
theorem am_L_2 {r : Nat → Nat} {lo : am_Lo} {ls ls' : Array Slot} {nL i : Nat} {v : Value} (h : am_L r lo ls nL) (hi : i + 1 < lo.length) (h' : lv_has ls' nL ((i, am_v r v) :: (am_lv r lo).filter (fun q => !(q.1 == i) && (!(q.1 == i + 1) && !(q.1 + 1 == i && q.2.category == 2))))) : am_L r (am_sl2 lo i v) ls' nL := by
  refine ⟨by rw [am_sl2, List.length_set, List.length_set, am_cut_len]; exact h.1, h'.1, h'.2.1, fun j w hj => ?_⟩
  unfold am_sl2 at hj
  by_cases hj1 : j = i + 1
  · subst hj1
    rw [List.getElem?_set_self (by rw [List.length_set, am_cut_len]; exact hi)] at hj
    cases hj
  rw [List.getElem?_set_ne (fun q => hj1 q.symm)] at hj
  by_cases hji : j = i
  · subst hji
    rw [List.getElem?_set_self (by rw [am_cut_len]; omega)] at hj
    obtain rfl := Option.some.inj (Option.some.inj hj)
    exact h'.2.2 (j, am_v r v) List.mem_cons_self
  · rw [List.getElem?_set_ne (fun q => hji q.symm)] at hj
    obtain ⟨h1, h2⟩ := am_cut_get hj
    refine h'.2.2 (j, am_v r w) (List.mem_cons_of_mem _ (List.mem_filter.mpr ⟨am_lv_mem h1, ?_⟩))
    have a1 : (j == i) = false := by simpa using hji
    have a3 : (j == i + 1) = false := by simpa using hj1
    have a2 : (j + 1 == i && (am_v r w).category == 2) = false := by
      rw [am_v_cat]
      cases hb : (j + 1 == i && w.category == 2) with
      | false => rfl
      | true =>
        simp only [Bool.and_eq_true, beq_iff_eq] at hb
        exact absurd hb h2
    show (!(j == i) && (!(j == i + 1) && !(j + 1 == i && (am_v r w).category == 2))) = true
    rw [a1, a2, a3]; rfl
section AM1
variable {p : Program} {l : Launch} {e : Env} {R : Room} {s : State} {m : MethodId} {args : Array Value} {below : List Frame} {meth : Method} {c : Code} {H : Heap} {locs : List Loc} {cells slots : Nat} {Q : State → Prop}
variable {cc : ByteArray} {pc pc' : Nat} {ls : Array Slot} {r : Nat → Nat} {lo lo' : am_Lo} {st st' : List Value} {nL : Nat}
set_option maxHeartbeats 4000000 in
theorem am_s1 (hx : p.tables.exec = Jvm.exec) (hb : c.code = cc) {i : Instr} (hf : am_p1 i pc lo st = some (pc', lo', st')) (hdg : decode cc pc = .ok (i, am_len i)) (hL : am_L r lo ls nL)
    (kk : ∀ ls' : Array Slot, am_L r lo' ls' nL → W p l e R s m args below meth c H locs cells slots Q (F0 m pc' ls' (st'.map (am_v r)))) : W p l e R s m args below meth c H locs cells slots Q (F0 m pc ls (st.map (am_v r))) := by
  cases i with
  | iconst v => cases hf; exact lv_iconst hx hb hdg rfl (kk ls hL)
  | bipush v => cases hf; exact lv_bipush hx hb hdg rfl (kk ls hL)
  | sipush v => cases hf; exact lv_sipush hx hb hdg rfl (kk ls hL)
  | lconst v => cases hf; exact lv_lconst hx hb hdg rfl (kk ls hL)
  | aconst_null => cases hf; exact lv_null hx hb hdg (kk ls hL)
  | iload_n k =>
    obtain ⟨x, q1, hg⟩ := Option.bind_eq_some_iff.mp hf; clear hf; have hf := hg; clear hg
    cases hf; exact lv_iload_n hx hb hdg rfl (hL.2.2.2 _ _ (am_glI_eq q1)) (kk ls hL)
  | iload k =>
    obtain ⟨x, q1, hg⟩ := Option.bind_eq_some_iff.mp hf; clear hf; have hf := hg; clear hg
    cases hf; exact lv_iload hx hb hdg (hL.2.2.2 _ _ (am_glI_eq q1)) (kk ls hL)
  | lload_n k =>
    obtain ⟨x, q1, hg⟩ := Option.bind_eq_some_iff.mp hf; clear hf; have hf := hg; clear hg
    cases hf; exact lv_lload_n hx hb hdg rfl (hL.2.2.2 _ _ (am_glL_eq q1)) (kk ls hL)
  | lload k =>
    obtain ⟨x, q1, hg⟩ := Option.bind_eq_some_iff.mp hf; clear hf; have hf := hg; clear hg
    cases hf; exact lv_lload hx hb hdg (hL.2.2.2 _ _ (am_glL_eq q1)) (kk ls hL)
  | aload_n k =>
    obtain ⟨x, q1, hg⟩ := Option.bind_eq_some_iff.mp hf; clear hf; have hf := hg; clear hg
    cases hf
    cases x with
    | none => exact lv_aload_nN hx hb hdg rfl (hL.2.2.2 _ _ (am_glQ_eq q1)) (kk ls hL)
    | some a => exact lv_aload_n hx hb hdg rfl (hL.2.2.2 _ _ (am_glQ_eq q1)) (kk ls hL)
  | aload k =>
    obtain ⟨x, q1, hg⟩ := Option.bind_eq_some_iff.mp hf; clear hf; have hf := hg; clear hg
    cases hf
    cases x with
    | none => exact lv_aloadN hx hb hdg (hL.2.2.2 _ _ (am_glQ_eq q1)) (kk ls hL)
    | some a => exact lv_aload hx hb hdg (hL.2.2.2 _ _ (am_glQ_eq q1)) (kk ls hL)
  | istore_n k =>
    obtain ⟨⟨x, t⟩, q1, hg⟩ := Option.bind_eq_some_iff.mp hf; clear hf; have hf := hg; clear hg
    have e1 := am_popI_eq q1; subst e1
    split at hf
    · rename_i hi; cases hf
      exact lv_istore_n hx hb hdg rfl (am_L_has hL) (by rw [← hL.1]; exact hi) rfl (fun ls' h' => kk ls' (am_L_1 (v := .int x) hL hi h'))
    · cases hf
  | istore k =>
    obtain ⟨⟨x, t⟩, q1, hg⟩ := Option.bind_eq_some_iff.mp hf; clear hf; have hf := hg; clear hg
    have e1 := am_popI_eq q1; subst e1
    split at hf
    · rename_i hi; cases hf
      exact lv_istore hx hb hdg (am_L_has hL) (by rw [← hL.1]; exact hi) rfl (fun ls' h' => kk ls' (am_L_1 (v := .int x) hL hi h'))
    · cases hf
  | lstore_n k =>
    obtain ⟨⟨x, t⟩, q1, hg⟩ := Option.bind_eq_some_iff.mp hf; clear hf; have hf := hg; clear hg
    have e1 := am_popL_eq q1; subst e1
    split at hf
    · rename_i hi; cases hf
      exact lv_lstore_n hx hb hdg rfl (am_L_has hL) (by rw [← hL.1]; exact hi) rfl (fun ls' h' => kk ls' (am_L_2 (v := .long x) hL hi h'))
    · cases hf
  | lstore k =>
    obtain ⟨⟨x, t⟩, q1, hg⟩ := Option.bind_eq_some_iff.mp hf; clear hf; have hf := hg; clear hg
    have e1 := am_popL_eq q1; subst e1
    split at hf
    · rename_i hi; cases hf
      exact lv_lstore hx hb hdg (am_L_has hL) (by rw [← hL.1]; exact hi) rfl (fun ls' h' => kk ls' (am_L_2 (v := .long x) hL hi h'))
    · cases hf
  | astore_n k =>
    obtain ⟨⟨x, t⟩, q1, hg⟩ := Option.bind_eq_some_iff.mp hf; clear hf; have hf := hg; clear hg
    have e1 := am_popQ_eq q1; subst e1
    split at hf
    · rename_i hi; cases hf
      cases x with
      | none => exact lv_astore_nN hx hb hdg rfl (am_L_has hL) (by rw [← hL.1]; exact hi) rfl (fun ls' h' => kk ls' (am_L_1 (v := .null) hL hi h'))
      | some a => exact lv_astore_n hx hb hdg rfl (am_L_has hL) (by rw [← hL.1]; exact hi) rfl (fun ls' h' => kk ls' (am_L_1 (v := .ref a) hL hi h'))
    · cases hf
  | astore k =>
    obtain ⟨⟨x, t⟩, q1, hg⟩ := Option.bind_eq_some_iff.mp hf; clear hf; have hf := hg; clear hg
    have e1 := am_popQ_eq q1; subst e1
    split at hf
    · rename_i hi; cases hf
      cases x with
      | none => exact lv_astoreN hx hb hdg (am_L_has hL) (by rw [← hL.1]; exact hi) rfl (fun ls' h' => kk ls' (am_L_1 (v := .null) hL hi h'))
      | some a => exact lv_astore hx hb hdg (am_L_has hL) (by rw [← hL.1]; exact hi) rfl (fun ls' h' => kk ls' (am_L_1 (v := .ref a) hL hi h'))
    · cases hf
  | iinc k d =>
    obtain ⟨x, q1, hg⟩ := Option.bind_eq_some_iff.mp hf; clear hf; have hf := hg; clear hg
    split at hf
    · rename_i hi; cases hf
      obtain ⟨kq, hkq⟩ := List.getElem?_of_mem (am_lv_mem (r := r) (am_glI_eq q1))
      exact lv_iinc hx hb hdg (am_L_has hL) hkq rfl (by rw [← hL.1]; exact hi) rfl (fun ls' h' => kk ls' (am_L_1 (v := .int (x + Int32.ofInt d)) hL hi h'))
    · cases hf
  | dup =>
    obtain ⟨⟨x, t⟩, q1, hg⟩ := Option.bind_eq_some_iff.mp hf; clear hf; have hf := hg; clear hg
    have e1 := am_popV_eq q1; subst e1
    split at hf
    · rename_i hi; cases hf; exact lv_dup hx hb hdg ((am_v_cat r x).trans hi) (kk ls hL)
    · cases hf
  | dup_x1 =>
    obtain ⟨⟨x, t⟩, q1, hg⟩ := Option.bind_eq_some_iff.mp hf; clear hf; have hf := hg; clear hg
    have e1 := am_popV_eq q1; subst e1
    obtain ⟨⟨y, t2⟩, q2, hg⟩ := Option.bind_eq_some_iff.mp hf; clear hf; have hf := hg; clear hg
    have e2 := am_popV_eq q2; dsimp only at e2; subst e2
    split at hf
    · rename_i hi; cases hf; exact lv_dup_x1 hx hb hdg ((am_v_cat r x).trans hi.1) ((am_v_cat r y).trans hi.2) (kk ls hL)
    · cases hf
  | pop =>
    obtain ⟨⟨x, t⟩, q1, hg⟩ := Option.bind_eq_some_iff.mp hf; clear hf; have hf := hg; clear hg
    have e1 := am_popV_eq q1; subst e1
    split at hf
    · rename_i hi; cases hf; exact lv_pop hx hb hdg ((am_v_cat r x).trans hi) (kk ls hL)
    · cases hf
  | dup2 =>
    obtain ⟨⟨x, t⟩, q1, hg⟩ := Option.bind_eq_some_iff.mp hf; clear hf; have hf := hg; clear hg
    have e1 := am_popV_eq q1; subst e1
    split at hf
    · rename_i hi; cases hf; exact lv_dup2_2 hx hb hdg ((am_v_cat r x).trans hi) (kk ls hL)
    · obtain ⟨⟨y, t2⟩, q2, hg⟩ := Option.bind_eq_some_iff.mp hf; clear hf; have hf := hg; clear hg
      have e2 := am_popV_eq q2; subst e2
      split at hf
      · rename_i hi; cases hf; exact lv_dup2_11 hx hb hdg ((am_v_cat r x).trans hi.1) ((am_v_cat r y).trans hi.2) (kk ls hL)
      · cases hf
  | _ => cases hf
set_option maxHeartbeats 4000000 in
theorem am_s2 (hx : p.tables.exec = Jvm.exec) (hb : c.code = cc) {i : Instr} (hf : am_p2 i st = some st') (hdg : decode cc pc = .ok (i, am_len i))
    (kk : W p l e R s m args below meth c H locs cells slots Q (F0 m (pc + 1) ls (st'.map (am_v r)))) : W p l e R s m args below meth c H locs cells slots Q (F0 m pc ls (st.map (am_v r))) := by
  cases i with
  | iadd =>
    obtain ⟨⟨x, r⟩, q1, hg⟩ := Option.bind_eq_some_iff.mp hf; clear hf; have hf := hg; clear hg
    obtain ⟨⟨y, r2⟩, q2, hg⟩ := Option.bind_eq_some_iff.mp hf; clear hf; have hf := hg; clear hg
    have e1 := am_popI_eq q1; have e2 := am_popI_eq q2; subst e2; subst e1
    cases hf; exact lv_iadd hx hb hdg kk
  | isub =>
    obtain ⟨⟨x, r⟩, q1, hg⟩ := Option.bind_eq_some_iff.mp hf; clear hf; have hf := hg; clear hg
    obtain ⟨⟨y, r2⟩, q2, hg⟩ := Option.bind_eq_some_iff.mp hf; clear hf; have hf := hg; clear hg
    have e1 := am_popI_eq q1; have e2 := am_popI_eq q2; subst e2; subst e1
    cases hf; exact lv_isub hx hb hdg kk
  | imul =>
    obtain ⟨⟨x, r⟩, q1, hg⟩ := Option.bind_eq_some_iff.mp hf; clear hf; have hf := hg; clear hg
    obtain ⟨⟨y, r2⟩, q2, hg⟩ := Option.bind_eq_some_iff.mp hf; clear hf; have hf := hg; clear hg
    have e1 := am_popI_eq q1; have e2 := am_popI_eq q2; subst e2; subst e1
    cases hf; exact lv_imul hx hb hdg kk
  | iand =>
    obtain ⟨⟨x, r⟩, q1, hg⟩ := Option.bind_eq_some_iff.mp hf; clear hf; have hf := hg; clear hg
    obtain ⟨⟨y, r2⟩, q2, hg⟩ := Option.bind_eq_some_iff.mp hf; clear hf; have hf := hg; clear hg
    have e1 := am_popI_eq q1; have e2 := am_popI_eq q2; subst e2; subst e1
    cases hf; exact lv_iand hx hb hdg kk
  | ishr =>
    obtain ⟨⟨x, r⟩, q1, hg⟩ := Option.bind_eq_some_iff.mp hf; clear hf; have hf := hg; clear hg
    obtain ⟨⟨y, r2⟩, q2, hg⟩ := Option.bind_eq_some_iff.mp hf; clear hf; have hf := hg; clear hg
    have e1 := am_popI_eq q1; have e2 := am_popI_eq q2; subst e2; subst e1
    cases hf; exact lv_ishr hx hb hdg kk
  | idiv =>
    obtain ⟨⟨x, r⟩, q1, hg⟩ := Option.bind_eq_some_iff.mp hf; clear hf; have hf := hg; clear hg
    obtain ⟨⟨y, r2⟩, q2, hg⟩ := Option.bind_eq_some_iff.mp hf; clear hf; have hf := hg; clear hg
    have e1 := am_popI_eq q1; have e2 := am_popI_eq q2; subst e2; subst e1
    split at hf
    · cases hf
    · rename_i hne; cases hf; exact lv_idiv hx hb hdg hne kk
  | irem =>
    obtain ⟨⟨x, r⟩, q1, hg⟩ := Option.bind_eq_some_iff.mp hf; clear hf; have hf := hg; clear hg
    obtain ⟨⟨y, r2⟩, q2, hg⟩ := Option.bind_eq_some_iff.mp hf; clear hf; have hf := hg; clear hg
    have e1 := am_popI_eq q1; have e2 := am_popI_eq q2; subst e2; subst e1
    split at hf
    · cases hf
    · rename_i hne; cases hf; exact lv_irem hx hb hdg hne kk
  | ladd =>
    obtain ⟨⟨x, r⟩, q1, hg⟩ := Option.bind_eq_some_iff.mp hf; clear hf; have hf := hg; clear hg
    obtain ⟨⟨y, r2⟩, q2, hg⟩ := Option.bind_eq_some_iff.mp hf; clear hf; have hf := hg; clear hg
    have e1 := am_popL_eq q1; have e2 := am_popL_eq q2; subst e2; subst e1
    cases hf; exact lv_ladd hx hb hdg kk
  | lsub =>
    obtain ⟨⟨x, r⟩, q1, hg⟩ := Option.bind_eq_some_iff.mp hf; clear hf; have hf := hg; clear hg
    obtain ⟨⟨y, r2⟩, q2, hg⟩ := Option.bind_eq_some_iff.mp hf; clear hf; have hf := hg; clear hg
    have e1 := am_popL_eq q1; have e2 := am_popL_eq q2; subst e2; subst e1
    cases hf; exact lv_lsub hx hb hdg kk
  | lmul =>
    obtain ⟨⟨x, r⟩, q1, hg⟩ := Option.bind_eq_some_iff.mp hf; clear hf; have hf := hg; clear hg
    obtain ⟨⟨y, r2⟩, q2, hg⟩ := Option.bind_eq_some_iff.mp hf; clear hf; have hf := hg; clear hg
    have e1 := am_popL_eq q1; have e2 := am_popL_eq q2; subst e2; subst e1
    cases hf; exact lv_lmul hx hb hdg kk
  | land =>
    obtain ⟨⟨x, r⟩, q1, hg⟩ := Option.bind_eq_some_iff.mp hf; clear hf; have hf := hg; clear hg
    obtain ⟨⟨y, r2⟩, q2, hg⟩ := Option.bind_eq_some_iff.mp hf; clear hf; have hf := hg; clear hg
    have e1 := am_popL_eq q1; have e2 := am_popL_eq q2; subst e2; subst e1
    cases hf; exact lv_land hx hb hdg kk
  | lor =>
    obtain ⟨⟨x, r⟩, q1, hg⟩ := Option.bind_eq_some_iff.mp hf; clear hf; have hf := hg; clear hg
    obtain ⟨⟨y, r2⟩, q2, hg⟩ := Option.bind_eq_some_iff.mp hf; clear hf; have hf := hg; clear hg
    have e1 := am_popL_eq q1; have e2 := am_popL_eq q2; subst e2; subst e1
    cases hf; exact lv_lor hx hb hdg kk
  | ldiv =>
    obtain ⟨⟨x, r⟩, q1, hg⟩ := Option.bind_eq_some_iff.mp hf; clear hf; have hf := hg; clear hg
    obtain ⟨⟨y, r2⟩, q2, hg⟩ := Option.bind_eq_some_iff.mp hf; clear hf; have hf := hg; clear hg
    have e1 := am_popL_eq q1; have e2 := am_popL_eq q2; subst e2; subst e1
    split at hf
    · cases hf
    · rename_i hne; cases hf; exact lv_ldiv hx hb hdg hne kk
  | lrem =>
    obtain ⟨⟨x, r⟩, q1, hg⟩ := Option.bind_eq_some_iff.mp hf; clear hf; have hf := hg; clear hg
    obtain ⟨⟨y, r2⟩, q2, hg⟩ := Option.bind_eq_some_iff.mp hf; clear hf; have hf := hg; clear hg
    have e1 := am_popL_eq q1; have e2 := am_popL_eq q2; subst e2; subst e1
    split at hf
    · cases hf
    · rename_i hne; cases hf; exact lv_lrem hx hb hdg hne kk
  | lshl =>
    obtain ⟨⟨x, r⟩, q1, hg⟩ := Option.bind_eq_some_iff.mp hf; clear hf; have hf := hg; clear hg
    obtain ⟨⟨y, r2⟩, q2, hg⟩ := Option.bind_eq_some_iff.mp hf; clear hf; have hf := hg; clear hg
    have e1 := am_popI_eq q1; have e2 := am_popL_eq q2; subst e2; subst e1
    cases hf; exact lv_lshl hx hb hdg rfl kk
  | lshr =>
    obtain ⟨⟨x, r⟩, q1, hg⟩ := Option.bind_eq_some_iff.mp hf; clear hf; have hf := hg; clear hg
    obtain ⟨⟨y, r2⟩, q2, hg⟩ := Option.bind_eq_some_iff.mp hf; clear hf; have hf := hg; clear hg
    have e1 := am_popI_eq q1; have e2 := am_popL_eq q2; subst e2; subst e1
    cases hf; exact lv_lshr hx hb hdg rfl kk
  | lcmp =>
    obtain ⟨⟨x, r⟩, q1, hg⟩ := Option.bind_eq_some_iff.mp hf; clear hf; have hf := hg; clear hg
    obtain ⟨⟨y, r2⟩, q2, hg⟩ := Option.bind_eq_some_iff.mp hf; clear hf; have hf := hg; clear hg
    have e1 := am_popL_eq q1; have e2 := am_popL_eq q2; subst e2; subst e1
    cases hf; exact W.lcmp hx hb hdg kk
  | lneg =>
    obtain ⟨⟨x, r⟩, q1, hg⟩ := Option.bind_eq_some_iff.mp hf; clear hf; have hf := hg; clear hg
    have e1 := am_popL_eq q1; subst e1
    cases hf; exact lv_lneg hx hb hdg  kk
  | i2l =>
    obtain ⟨⟨x, r⟩, q1, hg⟩ := Option.bind_eq_some_iff.mp hf; clear hf; have hf := hg; clear hg
    have e1 := am_popI_eq q1; subst e1
    cases hf; exact lv_i2l hx hb hdg rfl kk
  | l2i =>
    obtain ⟨⟨x, r⟩, q1, hg⟩ := Option.bind_eq_some_iff.mp hf; clear hf; have hf := hg; clear hg
    have e1 := am_popL_eq q1; subst e1
    cases hf; exact lv_l2i hx hb hdg rfl kk
  | i2b =>
    obtain ⟨⟨x, r⟩, q1, hg⟩ := Option.bind_eq_some_iff.mp hf; clear hf; have hf := hg; clear hg
    have e1 := am_popI_eq q1; subst e1
    cases hf; exact lv_i2b hx hb hdg rfl kk
  | _ => cases hf
theorem am_tgt_eq {off : Int} {u : Nat} (h : am_tgt pc off = some u) : (pc : Int) + off = (u : Int) := by
  unfold am_tgt at h; split at h
  · rename_i q; cases h; omega
  · cases h
set_option maxHeartbeats 4000000 in
theorem am_s3 (hx : p.tables.exec = Jvm.exec) (hb : c.code = cc) {i : Instr} {t len : Nat} (hf : am_p3 i t pc st = some (pc', st')) (hdg : decode cc pc = .ok (i, len)) (hlen : am_isBr i = none ∨ len = 3) (ht : ∀ off, am_isBr i = some off → (pc : Int) + off = (t : Int))
    (kk : W p l e R s m args below meth c H locs cells slots Q (F0 m pc' ls (st'.map (am_v r)))) : W p l e R s m args below meth c H locs cells slots Q (F0 m pc ls (st.map (am_v r))) := by
  cases i with
  | goto off => cases hf; obtain rfl : len = 3 := (hlen.resolve_left (by intro q; cases q)); exact lv_goto hx hb hdg (ht off rfl) kk
  | if_icmp cnd off =>
    obtain rfl : len = 3 := (hlen.resolve_left (by intro q; cases q))
    cases cnd with
    | eq =>
      obtain ⟨⟨x, r⟩, q1, hg⟩ := Option.bind_eq_some_iff.mp hf; clear hf; have hf := hg; clear hg
      obtain ⟨⟨y, r2⟩, q2, hg⟩ := Option.bind_eq_some_iff.mp hf; clear hf; have hf := hg; clear hg
      have e1 := am_popI_eq q1; have e2 := am_popI_eq q2; subst e2; subst e1; cases hf
      exact lv_icmp_eq hx hb hdg (ht off rfl) (fun q => by rw [if_pos q] at kk; exact kk) (fun q => by rw [if_neg (by exact q)] at kk; exact kk)
    | ne =>
      obtain ⟨⟨x, r⟩, q1, hg⟩ := Option.bind_eq_some_iff.mp hf; clear hf; have hf := hg; clear hg
      obtain ⟨⟨y, r2⟩, q2, hg⟩ := Option.bind_eq_some_iff.mp hf; clear hf; have hf := hg; clear hg
      have e1 := am_popI_eq q1; have e2 := am_popI_eq q2; subst e2; subst e1; cases hf
      exact lv_icmp_ne hx hb hdg (ht off rfl) (fun q => by rw [if_pos q] at kk; exact kk) (fun q => by rw [if_neg (by exact fun w => w q)] at kk; exact kk)
    | lt =>
      obtain ⟨⟨x, r⟩, q1, hg⟩ := Option.bind_eq_some_iff.mp hf; clear hf; have hf := hg; clear hg
      obtain ⟨⟨y, r2⟩, q2, hg⟩ := Option.bind_eq_some_iff.mp hf; clear hf; have hf := hg; clear hg
      have e1 := am_popI_eq q1; have e2 := am_popI_eq q2; subst e2; subst e1; cases hf
      exact lv_icmp_lt hx hb hdg (ht off rfl) (fun q => by rw [if_pos q] at kk; exact kk) (fun q => by rw [if_neg (by exact q)] at kk; exact kk)
    | ge =>
      obtain ⟨⟨x, r⟩, q1, hg⟩ := Option.bind_eq_some_iff.mp hf; clear hf; have hf := hg; clear hg
      obtain ⟨⟨y, r2⟩, q2, hg⟩ := Option.bind_eq_some_iff.mp hf; clear hf; have hf := hg; clear hg
      have e1 := am_popI_eq q1; have e2 := am_popI_eq q2; subst e2; subst e1; cases hf
      exact lv_icmp_ge hx hb hdg (ht off rfl) (fun q => by rw [if_pos q] at kk; exact kk) (fun q => by rw [if_neg (by exact q)] at kk; exact kk)
    | gt =>
      obtain ⟨⟨x, r⟩, q1, hg⟩ := Option.bind_eq_some_iff.mp hf; clear hf; have hf := hg; clear hg
      obtain ⟨⟨y, r2⟩, q2, hg⟩ := Option.bind_eq_some_iff.mp hf; clear hf; have hf := hg; clear hg
      have e1 := am_popI_eq q1; have e2 := am_popI_eq q2; subst e2; subst e1; cases hf
      exact lv_icmp_gt hx hb hdg (ht off rfl) (fun q => by rw [if_pos q] at kk; exact kk) (fun q => by rw [if_neg (by exact q)] at kk; exact kk)
    | le =>
      obtain ⟨⟨x, r⟩, q1, hg⟩ := Option.bind_eq_some_iff.mp hf; clear hf; have hf := hg; clear hg
      obtain ⟨⟨y, r2⟩, q2, hg⟩ := Option.bind_eq_some_iff.mp hf; clear hf; have hf := hg; clear hg
      have e1 := am_popI_eq q1; have e2 := am_popI_eq q2; subst e2; subst e1; cases hf
      exact lv_icmp_le hx hb hdg (ht off rfl) (fun q => by rw [if_pos q] at kk; exact kk) (fun q => by rw [if_neg (by exact q)] at kk; exact kk)
  | ifCond cnd off =>
    obtain rfl : len = 3 := (hlen.resolve_left (by intro q; cases q))
    cases cnd with
    | eq =>
      obtain ⟨⟨x, r⟩, q1, hg⟩ := Option.bind_eq_some_iff.mp hf; clear hf; have hf := hg; clear hg
      have e1 := am_popI_eq q1; subst e1; cases hf
      exact lv_if_eq hx hb hdg (ht off rfl) (fun q => by rw [if_pos q] at kk; exact kk) (fun q => by rw [if_neg (by exact q)] at kk; exact kk)
    | ne =>
      obtain ⟨⟨x, r⟩, q1, hg⟩ := Option.bind_eq_some_iff.mp hf; clear hf; have hf := hg; clear hg
      have e1 := am_popI_eq q1; subst e1; cases hf
      exact lv_if_ne hx hb hdg (ht off rfl) (fun q => by rw [if_pos q] at kk; exact kk) (fun q => by rw [if_neg (by exact fun w => w q)] at kk; exact kk)
    | lt =>
      obtain ⟨⟨x, r⟩, q1, hg⟩ := Option.bind_eq_some_iff.mp hf; clear hf; have hf := hg; clear hg
      have e1 := am_popI_eq q1; subst e1; cases hf
      exact lv_if_lt hx hb hdg (ht off rfl) (fun q => by rw [if_pos q] at kk; exact kk) (fun q => by rw [if_neg (by exact q)] at kk; exact kk)
    | ge =>
      obtain ⟨⟨x, r⟩, q1, hg⟩ := Option.bind_eq_some_iff.mp hf; clear hf; have hf := hg; clear hg
      have e1 := am_popI_eq q1; subst e1; cases hf
      exact lv_if_ge hx hb hdg (ht off rfl) (fun q => by rw [if_pos q] at kk; exact kk) (fun q => by rw [if_neg (by exact q)] at kk; exact kk)
    | gt =>
      obtain ⟨⟨x, r⟩, q1, hg⟩ := Option.bind_eq_some_iff.mp hf; clear hf; have hf := hg; clear hg
      have e1 := am_popI_eq q1; subst e1; cases hf
      exact lv_if_gt hx hb hdg (ht off rfl) (fun q => by rw [if_pos q] at kk; exact kk) (fun q => by rw [if_neg (by exact q)] at kk; exact kk)
    | le =>
      obtain ⟨⟨x, r⟩, q1, hg⟩ := Option.bind_eq_some_iff.mp hf; clear hf; have hf := hg; clear hg
      have e1 := am_popI_eq q1; subst e1; cases hf
      exact lv_if_le hx hb hdg (ht off rfl) (fun q => by rw [if_pos q] at kk; exact kk) (fun q => by rw [if_neg (by exact q)] at kk; exact kk)
  | ifnull off =>
    obtain rfl : len = 3 := (hlen.resolve_left (by intro q; cases q))
    obtain ⟨⟨x, r⟩, q1, hg⟩ := Option.bind_eq_some_iff.mp hf; clear hf; have hf := hg; clear hg
    have e1 := am_popQ_eq q1; subst e1; cases hf
    cases x with
    | none => exact lv_ifnullN hx hb hdg (ht off rfl) kk
    | some a => exact lv_ifnull hx hb hdg kk
  | ifnonnull off =>
    obtain rfl : len = 3 := (hlen.resolve_left (by intro q; cases q))
    obtain ⟨⟨x, r⟩, q1, hg⟩ := Option.bind_eq_some_iff.mp hf; clear hf; have hf := hg; clear hg
    have e1 := am_popQ_eq q1; subst e1; cases hf
    cases x with
    | none => exact lv_ifnonnullN hx hb hdg kk
    | some a => exact lv_ifnonnull hx hb hdg (ht off rfl) kk
  | tableswitch d lo hi offs =>
    obtain ⟨⟨x, r⟩, q1, hg⟩ := Option.bind_eq_some_iff.mp hf; clear hf; have hf := hg; clear hg
    have e1 := am_popI_eq q1; subst e1
    split at hf
    · rename_i hout
      obtain ⟨u, q2, hg⟩ := Option.bind_eq_some_iff.mp hf; clear hf; have hf := hg; clear hg
      cases hf
      exact lv_tableOut hx hb hdg hout (am_tgt_eq q2) kk
    · rename_i hin
      obtain ⟨off, q3, hg⟩ := Option.bind_eq_some_iff.mp hf; clear hf; have hf := hg; clear hg
      obtain ⟨u, q2, hg⟩ := Option.bind_eq_some_iff.mp hf; clear hf; have hf := hg; clear hg
      cases hf
      exact lv_tableIn hx hb hdg (fun q => hin (Or.inl q)) (fun q => hin (Or.inr q)) q3 (am_tgt_eq q2) kk
  | _ => cases hf
end AM1
