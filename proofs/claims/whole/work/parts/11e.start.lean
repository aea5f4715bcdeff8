/-! What the machine knows at the law's entry, out of the Statement. -/
theorem am_str_of {args : Array Value} {s : State} {A : Nat → Prop} {tm : Term} {bs : List Int32} (hN : bs.length < 2 ^ 31) (hex : (Cond.exactly tm "java/lang/String").before args s = true) (hco : (Cond.eq (.field tm "java/lang/String" "coder" "B") (.int 0)).before args s = true) (har : (Cond.arrayOf (.field tm "java/lang/String" "value" "[B") .byte).before args s = true) (hle : (Cond.eq (.length (.field tm "java/lang/String" "value" "[B")) (.int (Int32.ofNat bs.length))).before args s = true)
    (hel : ∀ j : Nat, j < bs.length → (Cond.eq (.elem (.field tm "java/lang/String" "value" "[B") (.int (Int32.ofNat j))) (.int (bs.getD j 0))).before args s = true) (hA : ∀ a : Nat, a < s.heap.size → ¬ A a) : ∃ q : Nat × Nat, tm.eval args s none [] s = some (.ref q.1) ∧ va_O "java/lang/String" q.1 A s s.heap ∧ va_OF "java/lang/String" "coder" "B" (.int 0) q.1 A s s.heap ∧ va_OF "java/lang/String" "value" "[B" (.ref q.2) q.1 A s s.heap ∧ va_T .byte q.2 bs.length (fun j => .int (bs.getD j 0)) A s s.heap := by
  obtain ⟨a, c, cA, kA, q1, q2, q3, q4, q5, q6, -⟩ := Cond.exactly_spec (args := args) (first := s) (o := none) (s := s) (idx := []) (t := tm) (cls := "java/lang/String") hex
  obtain ⟨t, ht, hT⟩ := va_Tof (f := fun j => .int (bs.getD j 0)) (A := A) hN har (va_eqt hle) (fun j hj => va_eqt (hel j hj)) hA
  exact ⟨(a, t), q1, ⟨cA, q3, q5, by rw [q6]; exact q2, hA a (Array.getElem?_eq_some_iff.mp q3).1⟩, vk_OFof q1 (va_eqt hco) hA, vk_OFof q1 ht hA, hT⟩
def w_fl : List Jvm.Cond := flatC (Jvm.Cond.and given_1 narrow_1)
/-- places of a String's conditions: class, coder, bytes, length, first element -/
def w_ix : List (Nat × Nat × Nat × Nat × Nat) := [(278, 279, 280, 281, 282), (303, 304, 305, 306, 307), (324, 325, 326, 327, 328), (345, 346, 347, 348, 349), (372, 373, 374, 375, 376), (400, 401, 402, 403, 404), (80, 81, 82, 83, 84), (129, 130, 131, 132, 133), (135, 136, 137, 138, 139), (145, 146, 147, 148, 149), (155, 156, 157, 158, 159), (166, 167, 168, 169, 170), (177, 178, 179, 180, 181), (189, 190, 191, 192, 193), (201, 202, 203, 204, 205), (215, 216, 217, 218, 219), (230, 231, 232, 233, 234), (245, 246, 247, 248, 249), (262, 263, 264, 265, 0)]
def w_q (t : Nat) : String × Nat × String × List Int32 := am_strs.getD t ("", 0, "", [])
def w_i (t : Nat) : Nat × Nat × Nat × Nat × Nat := w_ix.getD t (0, 0, 0, 0, 0)
theorem w_s1 : ∀ t, t < 19 → w_fl[(w_i t).1]? = some (Jvm.Cond.exactly (.string (w_q t).1 (w_q t).2.1) "java/lang/String") := by decide +kernel
theorem w_s2 : ∀ t, t < 19 → w_fl[(w_i t).2.1]? = some (Jvm.Cond.eq (.field (.string (w_q t).1 (w_q t).2.1) "java/lang/String" "coder" "B") (.int 0)) := by decide +kernel
theorem w_s3 : ∀ t, t < 19 → w_fl[(w_i t).2.2.1]? = some (Jvm.Cond.arrayOf (.field (.string (w_q t).1 (w_q t).2.1) "java/lang/String" "value" "[B") .byte) := by decide +kernel
theorem w_s4 : ∀ t, t < 19 → w_fl[(w_i t).2.2.2.1]? = some (Jvm.Cond.eq (.length (.field (.string (w_q t).1 (w_q t).2.1) "java/lang/String" "value" "[B")) (.int (Int32.ofNat (w_q t).2.2.2.length))) := by decide +kernel
theorem w_s6 : ∀ q ∈ am_strs, Jvm.Cond.stringRef q.1 q.2.1 q.2.2.1 ∈ lw_tbl := by decide +kernel
theorem w_e0 : ∀ j, j < (w_q 0).2.2.2.length → w_fl[(w_i 0).2.2.2.2 + j]? = some (Jvm.Cond.eq (.elem (.field (.string (w_q 0).1 (w_q 0).2.1) "java/lang/String" "value" "[B") (.int (Int32.ofNat j))) (.int ((w_q 0).2.2.2.getD j 0))) := by decide +kernel
theorem w_e1 : ∀ j, j < (w_q 1).2.2.2.length → w_fl[(w_i 1).2.2.2.2 + j]? = some (Jvm.Cond.eq (.elem (.field (.string (w_q 1).1 (w_q 1).2.1) "java/lang/String" "value" "[B") (.int (Int32.ofNat j))) (.int ((w_q 1).2.2.2.getD j 0))) := by decide +kernel
theorem w_e2 : ∀ j, j < (w_q 2).2.2.2.length → w_fl[(w_i 2).2.2.2.2 + j]? = some (Jvm.Cond.eq (.elem (.field (.string (w_q 2).1 (w_q 2).2.1) "java/lang/String" "value" "[B") (.int (Int32.ofNat j))) (.int ((w_q 2).2.2.2.getD j 0))) := by decide +kernel
theorem w_e3 : ∀ j, j < (w_q 3).2.2.2.length → w_fl[(w_i 3).2.2.2.2 + j]? = some (Jvm.Cond.eq (.elem (.field (.string (w_q 3).1 (w_q 3).2.1) "java/lang/String" "value" "[B") (.int (Int32.ofNat j))) (.int ((w_q 3).2.2.2.getD j 0))) := by decide +kernel
theorem w_e4 : ∀ j, j < (w_q 4).2.2.2.length → w_fl[(w_i 4).2.2.2.2 + j]? = some (Jvm.Cond.eq (.elem (.field (.string (w_q 4).1 (w_q 4).2.1) "java/lang/String" "value" "[B") (.int (Int32.ofNat j))) (.int ((w_q 4).2.2.2.getD j 0))) := by decide +kernel
theorem w_e5 : ∀ j, j < (w_q 5).2.2.2.length → w_fl[(w_i 5).2.2.2.2 + j]? = some (Jvm.Cond.eq (.elem (.field (.string (w_q 5).1 (w_q 5).2.1) "java/lang/String" "value" "[B") (.int (Int32.ofNat j))) (.int ((w_q 5).2.2.2.getD j 0))) := by decide +kernel
theorem w_e6 : ∀ j, j < (w_q 6).2.2.2.length → w_fl[(w_i 6).2.2.2.2 + j]? = some (Jvm.Cond.eq (.elem (.field (.string (w_q 6).1 (w_q 6).2.1) "java/lang/String" "value" "[B") (.int (Int32.ofNat j))) (.int ((w_q 6).2.2.2.getD j 0))) := by decide +kernel
theorem w_e7 : ∀ j, j < (w_q 7).2.2.2.length → w_fl[(w_i 7).2.2.2.2 + j]? = some (Jvm.Cond.eq (.elem (.field (.string (w_q 7).1 (w_q 7).2.1) "java/lang/String" "value" "[B") (.int (Int32.ofNat j))) (.int ((w_q 7).2.2.2.getD j 0))) := by decide +kernel
theorem w_e8 : ∀ j, j < (w_q 8).2.2.2.length → w_fl[(w_i 8).2.2.2.2 + j]? = some (Jvm.Cond.eq (.elem (.field (.string (w_q 8).1 (w_q 8).2.1) "java/lang/String" "value" "[B") (.int (Int32.ofNat j))) (.int ((w_q 8).2.2.2.getD j 0))) := by decide +kernel
theorem w_e9 : ∀ j, j < (w_q 9).2.2.2.length → w_fl[(w_i 9).2.2.2.2 + j]? = some (Jvm.Cond.eq (.elem (.field (.string (w_q 9).1 (w_q 9).2.1) "java/lang/String" "value" "[B") (.int (Int32.ofNat j))) (.int ((w_q 9).2.2.2.getD j 0))) := by decide +kernel
theorem w_e10 : ∀ j, j < (w_q 10).2.2.2.length → w_fl[(w_i 10).2.2.2.2 + j]? = some (Jvm.Cond.eq (.elem (.field (.string (w_q 10).1 (w_q 10).2.1) "java/lang/String" "value" "[B") (.int (Int32.ofNat j))) (.int ((w_q 10).2.2.2.getD j 0))) := by decide +kernel
theorem w_e11 : ∀ j, j < (w_q 11).2.2.2.length → w_fl[(w_i 11).2.2.2.2 + j]? = some (Jvm.Cond.eq (.elem (.field (.string (w_q 11).1 (w_q 11).2.1) "java/lang/String" "value" "[B") (.int (Int32.ofNat j))) (.int ((w_q 11).2.2.2.getD j 0))) := by decide +kernel
theorem w_e12 : ∀ j, j < (w_q 12).2.2.2.length → w_fl[(w_i 12).2.2.2.2 + j]? = some (Jvm.Cond.eq (.elem (.field (.string (w_q 12).1 (w_q 12).2.1) "java/lang/String" "value" "[B") (.int (Int32.ofNat j))) (.int ((w_q 12).2.2.2.getD j 0))) := by decide +kernel
theorem w_e13 : ∀ j, j < (w_q 13).2.2.2.length → w_fl[(w_i 13).2.2.2.2 + j]? = some (Jvm.Cond.eq (.elem (.field (.string (w_q 13).1 (w_q 13).2.1) "java/lang/String" "value" "[B") (.int (Int32.ofNat j))) (.int ((w_q 13).2.2.2.getD j 0))) := by decide +kernel
theorem w_e14 : ∀ j, j < (w_q 14).2.2.2.length → w_fl[(w_i 14).2.2.2.2 + j]? = some (Jvm.Cond.eq (.elem (.field (.string (w_q 14).1 (w_q 14).2.1) "java/lang/String" "value" "[B") (.int (Int32.ofNat j))) (.int ((w_q 14).2.2.2.getD j 0))) := by decide +kernel
theorem w_e15 : ∀ j, j < (w_q 15).2.2.2.length → w_fl[(w_i 15).2.2.2.2 + j]? = some (Jvm.Cond.eq (.elem (.field (.string (w_q 15).1 (w_q 15).2.1) "java/lang/String" "value" "[B") (.int (Int32.ofNat j))) (.int ((w_q 15).2.2.2.getD j 0))) := by decide +kernel
theorem w_e16 : ∀ j, j < (w_q 16).2.2.2.length → w_fl[(w_i 16).2.2.2.2 + j]? = some (Jvm.Cond.eq (.elem (.field (.string (w_q 16).1 (w_q 16).2.1) "java/lang/String" "value" "[B") (.int (Int32.ofNat j))) (.int ((w_q 16).2.2.2.getD j 0))) := by decide +kernel
theorem w_e17 : ∀ j, j < (w_q 17).2.2.2.length → w_fl[(w_i 17).2.2.2.2 + j]? = some (Jvm.Cond.eq (.elem (.field (.string (w_q 17).1 (w_q 17).2.1) "java/lang/String" "value" "[B") (.int (Int32.ofNat j))) (.int ((w_q 17).2.2.2.getD j 0))) := by decide +kernel
theorem w_e18 : ∀ j, j < (w_q 18).2.2.2.length → w_fl[(w_i 18).2.2.2.2 + j]? = some (Jvm.Cond.eq (.elem (.field (.string (w_q 18).1 (w_q 18).2.1) "java/lang/String" "value" "[B") (.int (Int32.ofNat j))) (.int ((w_q 18).2.2.2.getD j 0))) := by decide +kernel
theorem w_s5 (t : Nat) (ht : t < 19) : ∀ j, j < (w_q t).2.2.2.length → w_fl[(w_i t).2.2.2.2 + j]? = some (Jvm.Cond.eq (.elem (.field (.string (w_q t).1 (w_q t).2.1) "java/lang/String" "value" "[B") (.int (Int32.ofNat j))) (.int ((w_q t).2.2.2.getD j 0))) := by
  rcases (show t = 0 ∨ t = 1 ∨ t = 2 ∨ t = 3 ∨ t = 4 ∨ t = 5 ∨ t = 6 ∨ t = 7 ∨ t = 8 ∨ t = 9 ∨ t = 10 ∨ t = 11 ∨ t = 12 ∨ t = 13 ∨ t = 14 ∨ t = 15 ∨ t = 16 ∨ t = 17 ∨ t = 18 by omega) with rfl | rfl | rfl | rfl | rfl | rfl | rfl | rfl | rfl | rfl | rfl | rfl | rfl | rfl | rfl | rfl | rfl | rfl | rfl
  · exact w_e0
  · exact w_e1
  · exact w_e2
  · exact w_e3
  · exact w_e4
  · exact w_e5
  · exact w_e6
  · exact w_e7
  · exact w_e8
  · exact w_e9
  · exact w_e10
  · exact w_e11
  · exact w_e12
  · exact w_e13
  · exact w_e14
  · exact w_e15
  · exact w_e16
  · exact w_e17
  · exact w_e18
theorem w_n1 : ∀ j, j < am_names.length → w_fl[16 + j]? = some (Jvm.Cond.eq (.elem (.static "SettlementHouseModel" "NAMES" "[I") (.int (Int32.ofNat j))) (.int (am_names.getD j 0))) := by decide +kernel
theorem w_n2 : ∀ j, j < am_fields.length → w_fl[64 + j]? = some (Jvm.Cond.eq (.elem (.static "SettlementHouseModel" "FIELDS" "[I") (.int (Int32.ofNat j))) (.int (am_fields.getD j 0))) := by decide +kernel
theorem w_ob : ∀ C ∈ am_obs, Jvm.Cond.castable C "java/lang/Object" ∈ lw_tbl := by decide +kernel
theorem w_dc : Jvm.Cond.declares ⟨"java/lang/Object", "getClass", "()Ljava/lang/Class;"⟩ ∈ lw_tbl := by decide +kernel
theorem w_l3 : Jvm.Cond.laysStatic "java/lang/String" "COMPACT_STRINGS" "Z" ∈ lw_tbl := by decide +kernel
theorem w_i3 : Jvm.Cond.initialized "java/lang/String" ∈ lw_tbl := by decide +kernel
theorem w_l4 : Jvm.Cond.laysStatic "jdk/internal/util/Preconditions" "SIOOBE_FORMATTER" "Ljava/util/function/BiFunction;" ∈ lw_tbl := by decide +kernel
theorem w_i4 : Jvm.Cond.initialized "jdk/internal/util/Preconditions" ∈ lw_tbl := by decide +kernel
theorem w_qt {t : Nat} {x : String × Nat × String × List Int32} (h : am_strs[t]? = some x) : w_q t = x ∧ t < 19 := by
  have hl := (List.getElem?_eq_some_iff.mp h).1
  refine ⟨?_, hl⟩
  unfold w_q
  rw [List.getD_eq_getElem?_getD, h]; rfl
theorem am_aref {args : Array Value} {s : State} {t : Term} {ty : FieldType} (h : (Jvm.Cond.arrayOf t ty).before args s = true) : ∃ a, t.eval args s none [] s = some (.ref a) := by
  cases he : t.eval args s none [] s with
  | none =>
    exfalso
    simp only [Cond.before, Cond.holds, Cond.value, he] at h
    split at h <;> simp at h
  | some v =>
    cases v with
    | ref a => exact ⟨a, rfl⟩
    | _ =>
      exfalso
      simp only [Cond.before, Cond.holds, Cond.value, he] at h
      split at h <;> simp at h
def w_od (b a0 a1 a2 so mi : Nat) (sq : Nat → Nat × Nat) (k : Nat) : Nat := if k = 0 then b else if k = 1 then a0 else if k = 2 then a1 else if k = 3 then a2 else if k = 4 then so else if k = 5 then mi else if k < 40 then (sq (k - 10)).1 else (sq (k - 40)).2
theorem w_od10 {b a0 a1 a2 so mi k : Nat} {sq : Nat → Nat × Nat} (hk : k < 30) : w_od b a0 a1 a2 so mi sq (10 + k) = (sq k).1 := by
  unfold w_od
  rw [if_neg (by omega), if_neg (by omega), if_neg (by omega), if_neg (by omega), if_neg (by omega), if_neg (by omega), if_pos (by omega), Nat.add_sub_cancel_left]
theorem w_od40 {b a0 a1 a2 so mi k : Nat} {sq : Nat → Nat × Nat} : w_od b a0 a1 a2 so mi sq (40 + k) = (sq k).2 := by
  unfold w_od
  rw [if_neg (by omega), if_neg (by omega), if_neg (by omega), if_neg (by omega), if_neg (by omega), if_neg (by omega), if_neg (by omega), Nat.add_sub_cancel_left]
theorem kst_l0 : Jvm.Cond.laysStatic "java/util/ArrayList" "DEFAULTCAPACITY_EMPTY_ELEMENTDATA" "[Ljava/lang/Object;" ∈ lw_tbl := List.mem_append_right _ (List.mem_of_getElem? (i := 192) (by decide +kernel))
theorem kst_i0 : Jvm.Cond.initialized "java/util/ArrayList" ∈ lw_tbl := List.mem_append_right _ (List.mem_of_getElem? (i := 9) (by decide +kernel))
theorem kst_l1 : Jvm.Cond.laysStatic "SettlementHouseModel" "NAMES" "[I" ∈ lw_tbl := List.mem_append_right _ (List.mem_of_getElem? (i := 1428) (by decide +kernel))
theorem kst_i1 : Jvm.Cond.initialized "SettlementHouseModel" ∈ lw_tbl := List.mem_append_right _ (List.mem_of_getElem? (i := 12) (by decide +kernel))
theorem kst_l2 : Jvm.Cond.laysStatic "SettlementHouseModel" "FIELDS" "[I" ∈ lw_tbl := List.mem_append_right _ (List.mem_of_getElem? (i := 1430) (by decide +kernel))
theorem kst_i2 : Jvm.Cond.initialized "SettlementHouseModel" ∈ lw_tbl := List.mem_append_right _ (List.mem_of_getElem? (i := 12) (by decide +kernel))
theorem w_sl : ∀ t, t < 19 → (w_q t).2.2.2.length < 2 ^ 31 := by decide +kernel
set_option maxHeartbeats 4000000 in
set_option maxRecDepth 100000 in
theorem w_K {s : State} {b L : Nat} {xs : Nat → Int32} (hts : ∀ w ∈ lw_tbl, w.before #[Value.ref b] s = true) (hX : va_X b L xs s s.heap) (hbl : b < s.heap.size) (hgv : (Jvm.Cond.and given_1 narrow_1).before #[Value.ref b] s = true) : ∃ g : am_G, am_K g (some (L, xs)) s ∧ g.1 = s.heap.size ∧ g.2.2.1 = s.heap ∧ am_r g 16777216 = b := by
  have hta : ∀ w ∈ am_ws, w.before #[Value.ref b] s = true := fun w hw => hts w (List.mem_filter.mp hw).1
  have hcl : ∀ k : Nat, ∃ (cC : ClassId) (iS : Nat → Nat), ∀ q : vw_C, am_cls[k]? = some q → u_Kn s q.1 q.2.1 q.2.2 cC iS := by
    intro k
    cases hk : am_cls[k]? with
    | none => exact ⟨0, fun _ => 0, fun q h => by cases h⟩
    | some q =>
      obtain ⟨i1, i2, i3, i4, i5, i6⟩ := am_cok k q hk
      obtain ⟨cC, iS, h⟩ := u_known (ws := am_ws) hta i1 (hta _ i4)
      exact ⟨cC, iS, fun q' h' => by cases h'; exact h⟩
  obtain ⟨dC, hdC⟩ := Classical.axiomOfChoice hcl
  obtain ⟨dI, hdI⟩ := Classical.axiomOfChoice hdC
  have hobj : ∀ C ∈ am_els, ∃ cA : ClassId, ArrOfT s cA (.object C) ∧ va_RA s cA (.object C) := by
    intro C hC
    obtain ⟨comp, c1, k1, h1, h2, h3, h4, h5⟩ := Cond.arrayOver_spec (hts _ (am_els_in C hC))
    exact ⟨c1, fun n z => ⟨(fun k h => by cases h), k1, h3, comp, h4⟩, k1, comp, h3, h4, h1, h5⟩
  have hty : ∀ t : Nat, ∃ cA : ClassId, ∀ ty, am_ty[t]? = some ty → ArrOfT s cA ty ∧ va_RA s cA ty := by
    intro t
    match t with
    | 0 =>
      obtain ⟨cA, kA, comp, hf, hk, hkind⟩ := Cond.arrayClass_spec (hta _ ka_int)
      exact ⟨cA, fun ty h => by cases h; exact ⟨fun n z => ⟨(fun k h => by cases h), kA, hk, comp, hkind⟩, hf⟩⟩
    | 1 =>
      obtain ⟨cA, kA, comp, hf, hk, hkind⟩ := Cond.arrayClass_spec (hta _ ka_long)
      exact ⟨cA, fun ty h => by cases h; exact ⟨fun n z => ⟨(fun k h => by cases h), kA, hk, comp, hkind⟩, hf⟩⟩
    | 2 =>
      obtain ⟨cA, kA, comp, hf, hk, hkind⟩ := Cond.arrayClass_spec (hta _ ka_byte)
      exact ⟨cA, fun ty h => by cases h; exact ⟨fun n z => ⟨(fun k h => by cases h), kA, hk, comp, hkind⟩, hf⟩⟩
    | 3 =>
      obtain ⟨cA, kA, comp, hf, hk, hkind⟩ := Cond.arrayClass_spec (hta _ ka_boolean)
      exact ⟨cA, fun ty h => by cases h; exact ⟨fun n z => ⟨(fun k h => by cases h), kA, hk, comp, hkind⟩, hf⟩⟩
    | 4 =>
      obtain ⟨cA, h⟩ := hobj "SettlementHouse$Participant" (by decide +kernel)
      exact ⟨cA, fun ty e => by cases e; exact h⟩
    | 5 =>
      obtain ⟨cA, h⟩ := hobj "SettlementHouse$Asset" (by decide +kernel)
      exact ⟨cA, fun ty e => by cases e; exact h⟩
    | 6 =>
      obtain ⟨cA, h⟩ := hobj "SettlementHouse$Position" (by decide +kernel)
      exact ⟨cA, fun ty e => by cases e; exact h⟩
    | 7 =>
      obtain ⟨cA, h⟩ := hobj "SettlementHouse$Instruction" (by decide +kernel)
      exact ⟨cA, fun ty e => by cases e; exact h⟩
    | 8 =>
      obtain ⟨cA, h⟩ := hobj "java/lang/Object" (by decide +kernel)
      exact ⟨cA, fun ty e => by cases e; exact h⟩
    | t + 9 => exact ⟨0, fun ty h => by simp [am_ty] at h⟩
  obtain ⟨dA, hdA⟩ := Classical.axiomOfChoice hty
  have hs := flat_of_before _ hgv
  obtain ⟨a0, ha0⟩ := am_aref (hs (.arrayOf (.static "java/util/ArrayList" "DEFAULTCAPACITY_EMPTY_ELEMENTDATA" "[Ljava/lang/Object;") (.object "java/lang/Object")) (by decide +kernel))
  obtain ⟨a1, ha1⟩ := am_aref (hs (.arrayOf (.static "SettlementHouseModel" "NAMES" "[I") .int) (by decide +kernel))
  obtain ⟨a2, ha2⟩ := am_aref (hs (.arrayOf (.static "SettlementHouseModel" "FIELDS" "[I") .int) (by decide +kernel))
  have hA0 : ∀ a : Nat, a < s.heap.size → ¬ (s.heap.size ≤ a) := fun a h => Nat.not_le.mpr h
  have hfl : ∀ {i : Nat} {c : Jvm.Cond}, w_fl[i]? = some c → c.before #[Value.ref b] s = true := fun h => hs _ (List.mem_of_getElem? h)
  have hstr : ∀ t : Nat, ∃ q : Nat × Nat, ∀ x, am_strs[t]? = some x → (Term.string x.1 x.2.1).eval #[Value.ref b] s none [] s = some (.ref q.1) ∧ va_O "java/lang/String" q.1 (fun a => s.heap.size ≤ a) s s.heap ∧ va_OF "java/lang/String" "coder" "B" (.int 0) q.1 (fun a => s.heap.size ≤ a) s s.heap ∧ va_OF "java/lang/String" "value" "[B" (.ref q.2) q.1 (fun a => s.heap.size ≤ a) s s.heap ∧ va_T .byte q.2 x.2.2.2.length (fun j => .int (x.2.2.2.getD j 0)) (fun a => s.heap.size ≤ a) s s.heap := by
    intro t
    cases ht : am_strs[t]? with
    | none => exact ⟨(0, 0), fun x h => by cases h⟩
    | some x =>
      obtain ⟨hx, h19⟩ := w_qt ht
      subst hx
      obtain ⟨q, hq⟩ := am_str_of (A := fun a => s.heap.size ≤ a) (bs := (w_q t).2.2.2) (tm := .string (w_q t).1 (w_q t).2.1) (w_sl t h19) (hfl (w_s1 t h19)) (hfl (w_s2 t h19)) (hfl (w_s3 t h19)) (hfl (w_s4 t h19)) (fun j hj => hfl (w_s5 t h19 j hj)) hA0
      exact ⟨q, fun y hy => by cases hy; exact hq⟩
  obtain ⟨sq, hsq⟩ := Classical.axiomOfChoice hstr
  obtain ⟨n1, hn1, hT1⟩ := va_Tof (A := fun a => s.heap.size ≤ a) (N := am_names.length) (f := fun j => .int (am_names.getD j 0)) (by decide) (hs (.arrayOf (.static "SettlementHouseModel" "NAMES" "[I") .int) (by decide +kernel)) (va_eqt (hs (.eq (.length (.static "SettlementHouseModel" "NAMES" "[I")) (.int 45)) (by decide +kernel))) (fun j hj => va_eqt (hfl (w_n1 j hj))) hA0
  obtain ⟨n2, hn2, hT2⟩ := va_Tof (A := fun a => s.heap.size ≤ a) (N := am_fields.length) (f := fun j => .int (am_fields.getD j 0)) (by decide) (hs (.arrayOf (.static "SettlementHouseModel" "FIELDS" "[I") .int) (by decide +kernel)) (va_eqt (hs (.eq (.length (.static "SettlementHouseModel" "FIELDS" "[I")) (.int 15)) (by decide +kernel))) (fun j hj => va_eqt (hfl (w_n2 j hj))) hA0
  obtain ⟨n0, hn0, hT0⟩ := va_Tof (A := fun a => s.heap.size ≤ a) (N := 0) (f := fun _ => .null) (ty := .object "java/lang/Object") (by decide) (hs (.arrayOf (.static "java/util/ArrayList" "DEFAULTCAPACITY_EMPTY_ELEMENTDATA" "[Ljava/lang/Object;") (.object "java/lang/Object")) (by decide +kernel)) (va_eqt (hs (.eq (.length (.static "java/util/ArrayList" "DEFAULTCAPACITY_EMPTY_ELEMENTDATA" "[Ljava/lang/Object;")) (.int 0)) (by decide +kernel))) (fun j hj => absurd hj (Nat.not_lt_zero j)) hA0
  obtain rfl : a1 = n1 := by have := ha1.symm.trans hn1; cases this; rfl
  obtain rfl : a2 = n2 := by have := ha2.symm.trans hn2; cases this; rfl
  obtain rfl : a0 = n0 := by have := ha0.symm.trans hn0; cases this; rfl
  obtain ⟨mi, hmi⟩ := va_Mi.of (hs (.isRef (.mirror "[Ljava/lang/Object;")) (by decide +kernel))
  obtain ⟨sv, hsv, hsr⟩ := Cond.isRef_spec (hs (.isRef (.static "jdk/internal/util/Preconditions" "SIOOBE_FORMATTER" "Ljava/util/function/BiFunction;")) (by decide +kernel))
  obtain ⟨so, hso⟩ : ∃ so : Nat, sv = .null ∨ sv = .ref so := by
    cases sv with
    | ref a => exact ⟨a, Or.inr rfl⟩
    | null => exact ⟨0, Or.inl rfl⟩
    | _ => exact absurd hsr (by simp [Value.isRef])
  obtain ⟨g, hg⟩ : ∃ g : am_G, g = (s.heap.size, w_od b a0 a1 a2 so mi sq, s.heap, (dC, dI), dA) := ⟨_, rfl⟩
  have hA : ∀ a : Nat, a < s.heap.size → ¬ am_A g a := by intro a h q; rw [hg] at q; exact absurd h (Nat.not_lt.mpr q)
  have K : am_K g (some (L, xs)) s := by
    refine ⟨⟨fun c q h => ?_, fun k q h => ?_⟩, ?_, fun q h => ?_, ?_, fun C hC => va_AO.of (hts _ (am_els_in C hC)), fun w hw => va_Nw.of (am_nws_on w hw) (hts w (am_nws_in w hw)), fun k q h => ?_, ?_⟩
    · rw [hg]; exact hdI c q h
    · unfold am_t at h
      rw [List.getElem?_mapIdx] at h
      cases hk : am_ty[k]? with
      | none => rw [hk] at h; cases h
      | some ty =>
        rw [hk] at h
        cases h
        rw [hg]
        exact hdA k ty hk
    · rw [hg]
    · cases h
      rw [hg]
      exact hX
    · rw [hg]
      exact hbl
    · have hz : ∀ (C n d : String) (a : Nat), Jvm.Cond.laysStatic C n d ∈ lw_tbl → Jvm.Cond.initialized C ∈ lw_tbl → (Term.static C n d).eval #[Value.ref b] s none [] s = some (.ref a) → va_Z C n d (.ref a) (am_A g) s g.2.2.1 := by
        intro C n d a q1 q2 q3
        rw [show g.2.2.1 = s.heap by rw [hg]]
        exact va_Zref (hts _ q1) (hts _ q2) q3 hA
      have e1 : g.2.1 1 = a0 := by rw [hg]; rfl
      have e2 : g.2.1 2 = a1 := by rw [hg]; rfl
      have e3 : g.2.1 3 = a2 := by rw [hg]; rfl
      match k, h with
      | 0, h => cases h; rw [e1]; exact hz _ _ _ _ kst_l0 kst_i0 ha0
      | 1, h => cases h; rw [e2]; exact hz _ _ _ _ kst_l1 kst_i1 ha1
      | 2, h => cases h; rw [e3]; exact hz _ _ _ _ kst_l2 kst_i2 ha2
      | k + 3, h => simp [am_sts] at h
    · have eA : am_A g = fun a => s.heap.size ≤ a := by funext a; rw [hg]; rfl
      have eH : g.2.2.1 = s.heap := by rw [hg]
      have eo : g.2.1 = w_od b a0 a1 a2 so mi sq := by rw [hg]
      unfold am_Ol
      rw [eA, eH, eo]
      refine ⟨fun k q h => ?_, ⟨?_, ?_⟩, fun k q h => ?_, ?_, ?_, fun C hC => ?_⟩
      · match k, h with
        | 0, h => cases h; exact hT0
        | 1, h => cases h; exact hT1
        | 2, h => cases h; exact hT2
        | k + 3, h => simp [am_oT] at h
      · exact va_Zof (hts _ w_l3) (hts _ w_i3) (va_eqi (hs (.eq (.static "java/lang/String" "COMPACT_STRINGS" "Z") (.int 1)) (by decide +kernel))) hA0
      · rcases hso with hz | hz
        · left; rw [hz] at hsv; exact va_Zof (hts _ w_l4) (hts _ w_i4) hsv hA0
        · right; rw [hz] at hsv; exact va_Zof (hts _ w_l4) (hts _ w_i4) hsv hA0
      · obtain ⟨hqt, hk⟩ := w_qt h
        rw [w_od10 (show k < 30 by omega), w_od40]
        obtain ⟨z1, z2, z3, z4, z5⟩ := hsq k q h
        exact ⟨vk_R.of (A := #[Value.ref b]) (hts _ (w_s6 q (List.mem_of_getElem? h))) z1, z2, z3, z4, z5⟩
      · exact hmi
      · exact va_Dc.of (hts _ w_dc)
      · exact va_Nw.of rfl (hts _ (w_ob C hC))
  refine ⟨g, K, by rw [hg], by rw [hg], ?_⟩
  show am_r g am_M = b
  unfold am_r
  rw [if_neg (Nat.lt_irrefl _), Nat.sub_self, hg]
  rfl
