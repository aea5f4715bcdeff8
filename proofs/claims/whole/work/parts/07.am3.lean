/-! The world: cells by number, as the kit has them; the instructions that read and write them. -/
def R_AL : String := "java/util/ArrayList"
def F_AL : u_T := fun k => match k with
  | 0 => ("java/util/ArrayList", "elementData", "[Ljava/lang/Object;", false)
  | 1 => ("java/util/ArrayList", "size", "I", false)
  | _ => ("java/util/AbstractList", "modCount", "I", false)
def t_AL : Nat → FieldType := fun k => match k with
  | 0 => .array (.object "java/lang/Object")
  | 1 => .int
  | _ => .int
theorem n_AL : ∀ a, a < 3 → ∀ b, b < 3 → a ≠ b → (F_AL a).2.1 ≠ (F_AL b).2.1 := by decide +kernel
theorem t_AL_ok : ∀ k, k < 3 → parseFieldDescriptor (F_AL k).2.2.1 = some (t_AL k) := by decide +kernel
theorem i_AL : ∀ w ∈ u_ws R_AL F_AL 3, w ∈ lw_tbl := by decide +kernel
def am_ws : List Jvm.Cond := lw_tbl.filter goodWord
theorem am_lay {C : String} {T : u_T} {N : Nat} (h : ∀ w ∈ u_ws C T N, w ∈ lw_tbl) : ∀ w ∈ u_ws C T N, w ∈ am_ws := by
  intro w hw
  refine List.mem_filter.mpr ⟨h w hw, ?_⟩
  obtain ⟨k, -, rfl⟩ := List.mem_map.mp hw
  unfold u_lay
  split <;> rfl
def am_cls : List vw_C := [(R_Ho, F_Ho, 8), (R_Mo, F_Mo, 62), (R_An, F_An, 3), (R_As, F_As, 4), (R_Bo, F_Bo, 7), (R_De, F_De, 5), (R_Di, F_Di, 4), (R_In, F_In, 11), (R_Me, F_Me, 19), (R_Pa, F_Pa, 5), (R_Po, F_Po, 10), (R_Qu, F_Qu, 7), (R_Se, F_Se, 3), (R_AL, F_AL, 3)]
def am_ft : Nat → Nat → FieldType := fun ci => match ci with
  | 0 => t_Ho
  | 1 => t_Mo
  | 2 => t_An
  | 3 => t_As
  | 4 => t_Bo
  | 5 => t_De
  | 6 => t_Di
  | 7 => t_In
  | 8 => t_Me
  | 9 => t_Pa
  | 10 => t_Po
  | 11 => t_Qu
  | 12 => t_Se
  | _ => t_AL
def am_cN : Nat → Nat := fun ci => match ci with
  | 0 => 8
  | 1 => 62
  | 2 => 3
  | 3 => 4
  | 4 => 7
  | 5 => 5
  | 6 => 4
  | 7 => 11
  | 8 => 19
  | 9 => 5
  | 10 => 10
  | 11 => 7
  | 12 => 3
  | _ => 3
def am_df (ci : Nat) : List Value := (List.range (am_cN ci)).map (fun k => defaultValue (am_ft ci k))
theorem kq_Ho : Jvm.Cond.instantiable R_Ho 8 ∈ am_ws := List.mem_filter.mpr ⟨List.mem_append_right _ (List.mem_of_getElem? (i := 27) (by decide +kernel)), rfl⟩
theorem kz_Ho : Jvm.Cond.initialized R_Ho ∈ am_ws := List.mem_filter.mpr ⟨List.mem_append_right _ (List.mem_of_getElem? (i := 1) (by decide +kernel)), rfl⟩
theorem kq_Mo : Jvm.Cond.instantiable R_Mo 62 ∈ am_ws := List.mem_filter.mpr ⟨List.mem_append_right _ (List.mem_of_getElem? (i := 1188) (by decide +kernel)), rfl⟩
theorem kz_Mo : Jvm.Cond.initialized R_Mo ∈ am_ws := List.mem_filter.mpr ⟨List.mem_append_right _ (List.mem_of_getElem? (i := 12) (by decide +kernel)), rfl⟩
theorem kq_An : Jvm.Cond.instantiable R_An 3 ∈ am_ws := List.mem_filter.mpr ⟨List.mem_append_right _ (List.mem_of_getElem? (i := 124) (by decide +kernel)), rfl⟩
theorem kz_An : Jvm.Cond.initialized R_An ∈ am_ws := List.mem_filter.mpr ⟨List.mem_append_right _ (List.mem_of_getElem? (i := 3) (by decide +kernel)), rfl⟩
theorem kq_As : Jvm.Cond.instantiable R_As 4 ∈ am_ws := List.mem_filter.mpr ⟨List.mem_append_right _ (List.mem_of_getElem? (i := 955) (by decide +kernel)), rfl⟩
theorem kz_As : Jvm.Cond.initialized R_As ∈ am_ws := List.mem_filter.mpr ⟨List.mem_append_right _ (List.mem_of_getElem? (i := 19) (by decide +kernel)), rfl⟩
theorem kq_Bo : Jvm.Cond.instantiable R_Bo 7 ∈ am_ws := List.mem_filter.mpr ⟨List.mem_append_right _ (List.mem_of_getElem? (i := 162) (by decide +kernel)), rfl⟩
theorem kz_Bo : Jvm.Cond.initialized R_Bo ∈ am_ws := List.mem_filter.mpr ⟨List.mem_append_right _ (List.mem_of_getElem? (i := 5) (by decide +kernel)), rfl⟩
theorem kq_De : Jvm.Cond.instantiable R_De 5 ∈ am_ws := List.mem_filter.mpr ⟨List.mem_append_right _ (List.mem_of_getElem? (i := 287) (by decide +kernel)), rfl⟩
theorem kz_De : Jvm.Cond.initialized R_De ∈ am_ws := List.mem_filter.mpr ⟨List.mem_append_right _ (List.mem_of_getElem? (i := 11) (by decide +kernel)), rfl⟩
theorem kq_Di : Jvm.Cond.instantiable R_Di 4 ∈ am_ws := List.mem_filter.mpr ⟨List.mem_append_right _ (List.mem_of_getElem? (i := 140) (by decide +kernel)), rfl⟩
theorem kz_Di : Jvm.Cond.initialized R_Di ∈ am_ws := List.mem_filter.mpr ⟨List.mem_append_right _ (List.mem_of_getElem? (i := 4) (by decide +kernel)), rfl⟩
theorem kq_In : Jvm.Cond.instantiable R_In 11 ∈ am_ws := List.mem_filter.mpr ⟨List.mem_append_right _ (List.mem_of_getElem? (i := 854) (by decide +kernel)), rfl⟩
theorem kz_In : Jvm.Cond.initialized R_In ∈ am_ws := List.mem_filter.mpr ⟨List.mem_append_right _ (List.mem_of_getElem? (i := 25) (by decide +kernel)), rfl⟩
theorem kq_Me : Jvm.Cond.instantiable R_Me 19 ∈ am_ws := List.mem_filter.mpr ⟨List.mem_append_right _ (List.mem_of_getElem? (i := 35) (by decide +kernel)), rfl⟩
theorem kz_Me : Jvm.Cond.initialized R_Me ∈ am_ws := List.mem_filter.mpr ⟨List.mem_append_right _ (List.mem_of_getElem? (i := 2) (by decide +kernel)), rfl⟩
theorem kq_Pa : Jvm.Cond.instantiable R_Pa 5 ∈ am_ws := List.mem_filter.mpr ⟨List.mem_append_right _ (List.mem_of_getElem? (i := 171) (by decide +kernel)), rfl⟩
theorem kz_Pa : Jvm.Cond.initialized R_Pa ∈ am_ws := List.mem_filter.mpr ⟨List.mem_append_right _ (List.mem_of_getElem? (i := 6) (by decide +kernel)), rfl⟩
theorem kq_Po : Jvm.Cond.instantiable R_Po 10 ∈ am_ws := List.mem_filter.mpr ⟨List.mem_append_right _ (List.mem_of_getElem? (i := 600) (by decide +kernel)), rfl⟩
theorem kz_Po : Jvm.Cond.initialized R_Po ∈ am_ws := List.mem_filter.mpr ⟨List.mem_append_right _ (List.mem_of_getElem? (i := 20) (by decide +kernel)), rfl⟩
theorem kq_Qu : Jvm.Cond.instantiable R_Qu 7 ∈ am_ws := List.mem_filter.mpr ⟨List.mem_append_right _ (List.mem_of_getElem? (i := 255) (by decide +kernel)), rfl⟩
theorem kz_Qu : Jvm.Cond.initialized R_Qu ∈ am_ws := List.mem_filter.mpr ⟨List.mem_append_right _ (List.mem_of_getElem? (i := 10) (by decide +kernel)), rfl⟩
theorem kq_Se : Jvm.Cond.instantiable R_Se 3 ∈ am_ws := List.mem_filter.mpr ⟨List.mem_append_right _ (List.mem_of_getElem? (i := 767) (by decide +kernel)), rfl⟩
theorem kz_Se : Jvm.Cond.initialized R_Se ∈ am_ws := List.mem_filter.mpr ⟨List.mem_append_right _ (List.mem_of_getElem? (i := 21) (by decide +kernel)), rfl⟩
theorem kq_AL : Jvm.Cond.instantiable R_AL 3 ∈ am_ws := List.mem_filter.mpr ⟨List.mem_append_right _ (List.mem_of_getElem? (i := 180) (by decide +kernel)), rfl⟩
theorem kz_AL : Jvm.Cond.initialized R_AL ∈ am_ws := List.mem_filter.mpr ⟨List.mem_append_right _ (List.mem_of_getElem? (i := 9) (by decide +kernel)), rfl⟩
theorem am_cok (ci : Nat) (q : vw_C) (h : am_cls[ci]? = some q) : (∀ w ∈ u_ws q.1 q.2.1 q.2.2, w ∈ am_ws) ∧ (∀ k, k < q.2.2 → parseFieldDescriptor (q.2.1 k).2.2.1 = some (am_ft ci k)) ∧ (∀ a, a < q.2.2 → ∀ b, b < q.2.2 → a ≠ b → (q.2.1 a).2.1 ≠ (q.2.1 b).2.1) ∧ Jvm.Cond.instantiable q.1 q.2.2 ∈ am_ws ∧ Jvm.Cond.initialized q.1 ∈ am_ws ∧ am_cN ci = q.2.2 := by
  match ci, h with
  | 0, h => cases h; exact ⟨am_lay i_Ho, t_Ho_ok, n_Ho, kq_Ho, kz_Ho, rfl⟩
  | 1, h => cases h; exact ⟨am_lay i_Mo, t_Mo_ok, n_Mo, kq_Mo, kz_Mo, rfl⟩
  | 2, h => cases h; exact ⟨am_lay i_An, t_An_ok, n_An, kq_An, kz_An, rfl⟩
  | 3, h => cases h; exact ⟨am_lay i_As, t_As_ok, n_As, kq_As, kz_As, rfl⟩
  | 4, h => cases h; exact ⟨am_lay i_Bo, t_Bo_ok, n_Bo, kq_Bo, kz_Bo, rfl⟩
  | 5, h => cases h; exact ⟨am_lay i_De, t_De_ok, n_De, kq_De, kz_De, rfl⟩
  | 6, h => cases h; exact ⟨am_lay i_Di, t_Di_ok, n_Di, kq_Di, kz_Di, rfl⟩
  | 7, h => cases h; exact ⟨am_lay i_In, t_In_ok, n_In, kq_In, kz_In, rfl⟩
  | 8, h => cases h; exact ⟨am_lay i_Me, t_Me_ok, n_Me, kq_Me, kz_Me, rfl⟩
  | 9, h => cases h; exact ⟨am_lay i_Pa, t_Pa_ok, n_Pa, kq_Pa, kz_Pa, rfl⟩
  | 10, h => cases h; exact ⟨am_lay i_Po, t_Po_ok, n_Po, kq_Po, kz_Po, rfl⟩
  | 11, h => cases h; exact ⟨am_lay i_Qu, t_Qu_ok, n_Qu, kq_Qu, kz_Qu, rfl⟩
  | 12, h => cases h; exact ⟨am_lay i_Se, t_Se_ok, n_Se, kq_Se, kz_Se, rfl⟩
  | 13, h => cases h; exact ⟨am_lay i_AL, t_AL_ok, n_AL, kq_AL, kz_AL, rfl⟩
  | k + 14, h => simp [am_cls] at h
def am_ty : List FieldType := [.int, .long, .byte, .boolean, .object "SettlementHouse$Participant", .object "SettlementHouse$Asset", .object "SettlementHouse$Position", .object "SettlementHouse$Instruction", .object "java/lang/Object"]
theorem ka_int : Jvm.Cond.arrayClass .int ∈ am_ws := List.mem_filter.mpr ⟨List.mem_append_right _ (List.mem_of_getElem? (i := 120) (by decide +kernel)), rfl⟩
theorem ka_long : Jvm.Cond.arrayClass .long ∈ am_ws := List.mem_filter.mpr ⟨List.mem_append_right _ (List.mem_of_getElem? (i := 122) (by decide +kernel)), rfl⟩
theorem ka_byte : Jvm.Cond.arrayClass .byte ∈ am_ws := List.mem_filter.mpr ⟨List.mem_append_right _ (List.mem_of_getElem? (i := 119) (by decide +kernel)), rfl⟩
theorem ka_boolean : Jvm.Cond.arrayClass .boolean ∈ am_ws := List.mem_filter.mpr ⟨List.mem_append_right _ (List.mem_of_getElem? (i := 121) (by decide +kernel)), rfl⟩
def am_els : List String := ["SettlementHouse$Participant", "SettlementHouse$Asset", "SettlementHouse$Position", "SettlementHouse$Instruction", "java/lang/Object"]
def am_nws : List Jvm.Cond := [(Jvm.Cond.methodLinkNest "SettlementHouse" (24 : Nat) ({ cls := "SettlementHouse$Answer", name := "<init>", desc := "()V" } : Jvm.MethodName) "SettlementHouse"), (Jvm.Cond.methodLinkNest "SettlementHouse" (31 : Nat) ({ cls := "SettlementHouse$Disk", name := "<init>", desc := "()V" } : Jvm.MethodName) "SettlementHouse"), (Jvm.Cond.methodLinkNest "SettlementHouse" (45 : Nat) ({ cls := "SettlementHouse$Queue", name := "<init>", desc := "()V" } : Jvm.MethodName) "SettlementHouse")]
theorem am_els_in : ∀ C ∈ am_els, Jvm.Cond.arrayOver (.object C) ∈ lw_tbl := by
  intro C hC
  simp only [am_els, List.mem_cons, List.not_mem_nil, or_false] at hC
  rcases hC with rfl | rfl | rfl | rfl | rfl
  · exact List.mem_append_right _ (List.mem_of_getElem? (i := 168) (by decide +kernel))
  · exact List.mem_append_right _ (List.mem_of_getElem? (i := 170) (by decide +kernel))
  · exact List.mem_append_right _ (List.mem_of_getElem? (i := 178) (by decide +kernel))
  · exact List.mem_append_right _ (List.mem_of_getElem? (i := 261) (by decide +kernel))
  · exact List.mem_append_right _ (List.mem_of_getElem? (i := 843) (by decide +kernel))
theorem am_nws_in : ∀ w ∈ am_nws, w ∈ lw_tbl := by
  intro w hw
  simp only [am_nws, List.mem_cons, List.not_mem_nil, or_false] at hw
  rcases hw with rfl | rfl | rfl
  · exact List.mem_append_right _ (List.mem_of_getElem? (i := 125) (by decide +kernel))
  · exact List.mem_append_right _ (List.mem_of_getElem? (i := 141) (by decide +kernel))
  · exact List.mem_append_right _ (List.mem_of_getElem? (i := 256) (by decide +kernel))
theorem am_nws_on : ∀ w ∈ am_nws, w.onTables = true := by
  intro w hw
  simp only [am_nws, List.mem_cons, List.not_mem_nil, or_false] at hw
  rcases hw with rfl | rfl | rfl <;> rfl
theorem am_nw_warm {s U : State} (hW : s.WarmedH U.vm) (h : ∀ w ∈ am_nws, va_Nw w s) : ∀ w ∈ am_nws, va_Nw w U := by
  intro w hw
  have h1 := h w hw
  simp only [am_nws, List.mem_cons, List.not_mem_nil, or_false] at hw
  rcases hw with rfl | rfl | rfl <;> exact va_Nw.warmM hW h1
theorem ksf_ws : Jvm.Cond.sameField "java/util/ArrayList" "java/util/AbstractList" "modCount" "I" ∈ am_ws := List.mem_filter.mpr ⟨List.mem_append_right _ (List.mem_of_getElem? (i := 197) (by decide +kernel)), rfl⟩
/-- the static fields that are read -/
def am_sts : List (String × String × String) := [("java/util/ArrayList", "DEFAULTCAPACITY_EMPTY_ELEMENTDATA", "[Ljava/lang/Object;"), ("SettlementHouseModel", "NAMES", "[I"), ("SettlementHouseModel", "FIELDS", "[I")]
theorem koi_i : Jvm.Cond.instanceMethod objectInit ∈ am_ws := List.mem_filter.mpr ⟨List.mem_append_right _ (List.mem_of_getElem? (i := 32) (by decide +kernel)), rfl⟩
theorem koi_c : Jvm.Cond.code objectInit ⟨#[0xb1]⟩ 1 none ∈ am_ws := List.mem_filter.mpr ⟨List.mem_append_right _ (List.mem_of_getElem? (i := 33) (by decide +kernel)), rfl⟩
/-- base of the new cells, the old addresses, the heap at the law's start, classes and slots, array classes -/
abbrev am_G : Type := Nat × (Nat → Nat) × Heap × va_G × (Nat → ClassId)
def am_r (g : am_G) (a : Nat) : Nat := if a < am_M then g.1 + a else g.2.1 (a - am_M)
abbrev am_X : Type := (Nat → Int32) ⊕ (Nat → Int64) ⊕ (Nat → UInt32) ⊕ (Nat → UInt64) ⊕ (Nat → Option Nat)
def am_x (r : Nat → Nat) : am_X → am_X
  | .inr (.inr (.inr (.inr f))) => .inr (.inr (.inr (.inr (fun j => (f j).map r))))
  | x => x
def am_c (g : am_G) : am_Ce → va_E
  | .inl (t, n, x) => .inl (g.2.2.2.2 t, n, am_x (am_r g) x)
  | .inr (ci, fs) => .inr (ci, fs.map (am_v (am_r g)))
def am_w (g : am_G) (h : am_H) : va_W := h.mapIdx fun a e => (am_r g a, am_c g e)
def am_t (g : am_G) : List (ClassId × FieldType) := am_ty.mapIdx fun t ty => (g.2.2.2.2 t, ty)
def am_A (g : am_G) : Nat → Prop := fun q => g.1 ≤ q
def am_Wd (g : am_G) (h : am_H) (H : Heap) (locs : List Loc) : Prop := h.length ≤ am_M ∧ H.size = g.1 + h.length ∧ va_P g.2.2.2.1 am_cls (am_w g h) H ∧ va_S (am_A g) g.2.2.1 H locs
/-- old arrays that are read: type, place among the old addresses, length, contents -/
def am_oT : List (FieldType × Nat × Nat × (Nat → Value)) := [(.object "java/lang/Object", 1, 0, fun _ => .null), (.int, 2, am_names.length, fun j => .int (am_names.getD j 0)), (.int, 3, am_fields.length, fun j => .int (am_fields.getD j 0))]
/-- classes whose objects stand in lists -/
def am_obs : List String := ["SettlementHouse$Position", "SettlementHouse$Sent"]
/-- what is known of the old cells: tables, two static fields, the String constants, the class object of Object[] -/
def am_Ol (g : am_G) (U : State) : Prop := (∀ (k : Nat) (q : FieldType × Nat × Nat × (Nat → Value)), am_oT[k]? = some q → va_T q.1 (g.2.1 q.2.1) q.2.2.1 q.2.2.2 (am_A g) U g.2.2.1) ∧
  (va_Z "java/lang/String" "COMPACT_STRINGS" "Z" (.int 1) (am_A g) U g.2.2.1 ∧ (va_Z "jdk/internal/util/Preconditions" "SIOOBE_FORMATTER" "Ljava/util/function/BiFunction;" .null (am_A g) U g.2.2.1 ∨ va_Z "jdk/internal/util/Preconditions" "SIOOBE_FORMATTER" "Ljava/util/function/BiFunction;" (.ref (g.2.1 4)) (am_A g) U g.2.2.1)) ∧
  (∀ (k : Nat) (q : String × Nat × String × List Int32), am_strs[k]? = some q → vk_R q.1 q.2.1 q.2.2.1 (g.2.1 (10 + k)) U ∧ va_O "java/lang/String" (g.2.1 (10 + k)) (am_A g) U g.2.2.1 ∧ va_OF "java/lang/String" "coder" "B" (.int 0) (g.2.1 (10 + k)) (am_A g) U g.2.2.1 ∧ va_OF "java/lang/String" "value" "[B" (.ref (g.2.1 (40 + k))) (g.2.1 (10 + k)) (am_A g) U g.2.2.1 ∧ va_T .byte (g.2.1 (40 + k)) q.2.2.2.length (fun j => .int (q.2.2.2.getD j 0)) (am_A g) U g.2.2.1) ∧
  va_Mi "[Ljava/lang/Object;" (g.2.1 5) U ∧ va_Dc U ∧ ∀ C ∈ am_obs, va_Nw (.castable C "java/lang/Object") U
theorem am_Ol_moved {g : am_G} {u U : State} (hvm : u.vm.Alike U.vm) (hR : ∀ (k : Nat) (q : String × Nat × String × List Int32), am_strs[k]? = some q → vk_R q.1 q.2.1 q.2.2.1 (g.2.1 (10 + k)) u → vk_R q.1 q.2.1 q.2.2.1 (g.2.1 (10 + k)) U) (h : am_Ol g u) : am_Ol g U :=
  ⟨fun k q hq => va_T.moved hvm (h.1 k q hq), ⟨va_Z.moved hvm h.2.1.1, h.2.1.2.imp (va_Z.moved hvm) (va_Z.moved hvm)⟩, fun k q hq => ⟨hR k q hq (h.2.2.1 k q hq).1, va_O.moved hvm (h.2.2.1 k q hq).2.1, va_OF.moved hvm (h.2.2.1 k q hq).2.2.1, va_OF.moved hvm (h.2.2.1 k q hq).2.2.2.1, va_T.moved hvm (h.2.2.1 k q hq).2.2.2.2⟩, va_Mi.moved hvm h.2.2.2.1, va_Dc.moved hvm h.2.2.2.2.1, fun C hC => va_tabs rfl (rfl : (u.setVm U.vm).vm = U.vm) (by rw [Cond.castable_setVm hvm]; exact h.2.2.2.2.2 C hC)⟩
def am_K (g : am_G) (sc : am_Sc) (U : State) : Prop := va_K g.2.2.2.1 am_cls (am_t g) U ∧ g.1 = g.2.2.1.size ∧ (∀ q, sc = some q → va_X (g.2.1 0) q.1 q.2 U g.2.2.1) ∧ g.2.1 0 < g.2.2.1.size ∧ (∀ C ∈ am_els, va_AO C U) ∧ (∀ w ∈ am_nws, va_Nw w U) ∧ (∀ (k : Nat) (q : String × String × String), am_sts[k]? = some q → va_Z q.1 q.2.1 q.2.2 (.ref (g.2.1 (k + 1))) (am_A g) U g.2.2.1) ∧ am_Ol g U
theorem am_K_none {g : am_G} {sc : am_Sc} {U : State} (h : am_K g sc U) : am_K g none U := ⟨h.1, h.2.1, (fun _ q => nomatch q), h.2.2.2⟩
theorem am_K_warm {g : am_G} {sc : am_Sc} {s U : State} (hW : s.WarmedH U.vm) (h : am_K g sc s) : am_K g sc U := ⟨va_K.moved hW.alike h.1, h.2.1, fun q hq => va_X.moved hW.alike (h.2.2.1 q hq), h.2.2.2.1, fun C hC => va_AO.moved hW.alike (h.2.2.2.2.1 C hC), am_nw_warm hW h.2.2.2.2.2.1, fun k q hq => va_Z.moved hW.alike (h.2.2.2.2.2.2.1 k q hq), am_Ol_moved hW.alike (fun k q _ hr => vk_R.warm hW hr) h.2.2.2.2.2.2.2⟩
theorem am_K_call {g : am_G} {sc : am_Sc} {U : State} (f : JFrame) (mk : MethodId) (a : Array Value) (h : am_K g sc U) : am_K g sc (U.calling f mk a) := ⟨va_K.moved (u := U) (U := U.calling f mk a) (Vm.Alike.refl U.vm) h.1, h.2.1, fun q hq => va_X.moved (u := U) (U := U.calling f mk a) (Vm.Alike.refl U.vm) (h.2.2.1 q hq), h.2.2.2.1, fun C hC => va_AO.moved (u := U) (U := U.calling f mk a) (Vm.Alike.refl U.vm) (h.2.2.2.2.1 C hC), fun w hw => va_Nw.same (u := U) (U := U.calling f mk a) (am_nws_on w hw) rfl (h.2.2.2.2.2.1 w hw), fun k q hq => va_Z.moved (u := U) (U := U.calling f mk a) (Vm.Alike.refl U.vm) (h.2.2.2.2.2.2.1 k q hq), am_Ol_moved (u := U) (U := U.calling f mk a) (Vm.Alike.refl U.vm) (fun k q _ hr => vk_R.same rfl hr) h.2.2.2.2.2.2.2⟩
theorem am_w_get (g : am_G) (h : am_H) (a : Nat) : (am_w g h)[a]? = (h[a]?).map fun e => (am_r g a, am_c g e) := by
  unfold am_w; rw [List.getElem?_mapIdx]
theorem am_w_set (g : am_G) (h : am_H) (a : Nat) (e : am_Ce) : am_w g (h.set a e) = (am_w g h).set a (am_r g a, am_c g e) := by
  apply List.ext_getElem?
  intro i
  rw [am_w_get]
  by_cases hi : i = a
  · subst hi
    rw [List.getElem?_set, List.getElem?_set]
    simp only [if_true, am_w, List.length_mapIdx]
    split <;> rfl
  · rw [List.getElem?_set_ne (fun q => hi q.symm), List.getElem?_set_ne (fun q => hi q.symm), am_w_get]
theorem am_w_app (g : am_G) (h : am_H) (e : am_Ce) : am_w g (h ++ [e]) = am_w g h ++ [(am_r g h.length, am_c g e)] := by
  unfold am_w; rw [List.mapIdx_concat]
theorem am_r_lt {g : am_G} {a : Nat} (h : a < am_M) : am_r g a = g.1 + a := if_pos h
theorem am_len_lt {h : am_H} {a : Nat} {e : am_Ce} (hl : h.length ≤ am_M) (ha : h[a]? = some e) : a < am_M := Nat.lt_of_lt_of_le (List.getElem?_eq_some_iff.mp ha).1 hl
theorem am_D {g : am_G} {h : am_H} (hl : h.length ≤ am_M) : va_D (am_A g) (am_w g h) := by
  have key : ∀ (i : Nat) (q : Nat × va_E), (am_w g h)[i]? = some q → q.1 = g.1 + i := by
    intro i q hq
    rw [am_w_get] at hq
    cases he : h[i]? with
    | none => rw [he] at hq; cases hq
    | some e =>
      rw [he] at hq
      cases hq
      exact am_r_lt (am_len_lt hl he)
  refine ⟨fun i j p q hi hj hpq => ?_, fun k q hk => ?_⟩
  · have h1 := key i p hi
    have h2 := key j q hj
    omega
  · show g.1 ≤ q.1
    rw [key k q hk]
    omega
theorem am_Wd_push {g : am_G} {h : am_H} {H H1 : Heap} {locs : List Loc} {e : am_Ce} (hW : am_Wd g h H locs) (hl : h.length < am_M) (z : H1.size = H.size + 1) (o : ∀ q : Nat, q < H.size → H1[q]? = H[q]?) (he : va_at g.2.2.2.1 am_cls (H.size, am_c g e) H1) : am_Wd g (h ++ [e]) H1 locs := by
  obtain ⟨h1, h2, h3, h4⟩ := hW
  have hr : am_r g h.length = H.size := by rw [am_r_lt hl, h2]
  refine ⟨by rw [List.length_append]; exact hl, by rw [z, h2, List.length_append]; rfl, ?_, ⟨Nat.le_trans h4.1 (by omega), fun x a b => (o x (Nat.lt_of_lt_of_le a h4.1)).trans (h4.2.1 x a b), h4.2.2⟩⟩
  rw [am_w_app, hr]
  refine (h3.kept fun k x hx => o x.1 ((h3 k x hx).lt)).app (fun k x hx => ?_)
  have hz : k < 1 := (List.getElem?_eq_some_iff.mp hx).1
  rw [show k = 0 by omega] at hx
  cases hx
  exact he
theorem am_Wd_set {g : am_G} {h : am_H} {H H1 : Heap} {locs : List Loc} {a k : Nat} {e0 e : am_Ce} (hW : am_Wd g h H locs) (ha : h[a]? = some e0) (z : H1.size = H.size) (o : ∀ q : Nat, q ≠ am_r g a → H1[q]? = H[q]?) (he : va_at g.2.2.2.1 am_cls (am_r g a, am_c g e) H1) : am_Wd g (h.set a e) H1 (locs ++ [⟨am_r g a, k⟩]) := by
  obtain ⟨h1, h2, h3, h4⟩ := hW
  have hp : (am_w g h)[a]? = some (am_r g a, am_c g e0) := by rw [am_w_get, ha]; rfl
  refine ⟨by rw [List.length_set]; exact h1, by rw [List.length_set, z]; exact h2, ?_, h4.put z o ?_⟩
  · rw [am_w_set]
    exact h3.set (am_D h1) hp he o
  · exact (am_D h1).2 a _ hp
theorem am_at {g : am_G} {h : am_H} {H : Heap} {locs : List Loc} {a : Nat} {e : am_Ce} (hW : am_Wd g h H locs) (ha : h[a]? = some e) : va_at g.2.2.2.1 am_cls (am_r g a, am_c g e) H := hW.2.2.1 a _ (by rw [am_w_get, ha]; rfl)
theorem am_tget {g : am_G} {t : Nat} {ty : FieldType} (h : am_ty[t]? = some ty) : (am_t g)[t]? = some (g.2.2.2.2 t, ty) := by
  unfold am_t; rw [List.getElem?_mapIdx, h]; rfl
def am_ob (h : am_H) (a ci : Nat) : Option (List Value) := match h[a]? with
  | some (.inr (c, fs)) => if c = ci then some fs else none
  | _ => none
theorem am_ob_eq {h : am_H} {a ci : Nat} {fs : List Value} (q : am_ob h a ci = some fs) : h[a]? = some (.inr (ci, fs)) := by
  unfold am_ob at q; split at q
  · rename_i w; split at q
    · rename_i e; cases q; subst e; exact w
    · cases q
  · cases q
/-- an int-like array: its type's number, length, contents -/
def am_ai (h : am_H) (a : Nat) : Option (Nat × Nat × (Nat → Int32)) := match h[a]? with
  | some (.inl (t, n, .inl f)) => some (t, n, f)
  | _ => none
theorem am_ai_eq {h : am_H} {a t n : Nat} {f : Nat → Int32} (q : am_ai h a = some (t, n, f)) : h[a]? = some (.inl (t, n, .inl f)) := by
  unfold am_ai at q; split at q
  · rename_i w; cases q; exact w
  · cases q
def am_al (h : am_H) (a : Nat) : Option (Nat × Nat × (Nat → Int64)) := match h[a]? with
  | some (.inl (t, n, .inr (.inl f))) => some (t, n, f)
  | _ => none
theorem am_al_eq {h : am_H} {a t n : Nat} {f : Nat → Int64} (q : am_al h a = some (t, n, f)) : h[a]? = some (.inl (t, n, .inr (.inl f))) := by
  unfold am_al at q; split at q
  · rename_i w; cases q; exact w
  · cases q
def am_aq (h : am_H) (a : Nat) : Option (Nat × Nat × (Nat → Option Nat)) := match h[a]? with
  | some (.inl (t, n, .inr (.inr (.inr (.inr f))))) => some (t, n, f)
  | _ => none
theorem am_aq_eq {h : am_H} {a t n : Nat} {f : Nat → Option Nat} (q : am_aq h a = some (t, n, f)) : h[a]? = some (.inl (t, n, .inr (.inr (.inr (.inr f))))) := by
  unfold am_aq at q; split at q
  · rename_i w; cases q; exact w
  · cases q
def am_an (h : am_H) (a : Nat) : Option (Nat × Nat × am_X) := match h[a]? with
  | some (.inl x) => some x
  | _ => none
theorem am_an_eq {h : am_H} {a : Nat} {x : Nat × Nat × am_X} (q : am_an h a = some x) : h[a]? = some (.inl x) := by
  unfold am_an at q; split at q
  · rename_i w; cases q; exact w
  · cases q
def am_oc (h : am_H) (a : Nat) : Option Nat := match h[a]? with
  | some (.inr (c, _)) => some c
  | _ => none
theorem am_oc_eq {h : am_H} {a c : Nat} (q : am_oc h a = some c) : ∃ fs, h[a]? = some (.inr (c, fs)) := by
  unfold am_oc at q; split at q
  · rename_i w; cases q; exact ⟨_, w⟩
  · cases q
def am_ix (i : Int32) (n : Nat) : Option Nat := if i < 0 ∨ n ≤ i.toNatClampNeg then none else some i.toNatClampNeg
theorem am_ix_eq {i : Int32} {n j : Nat} (h : am_ix i n = some j) : vp_in i n ∧ j = i.toNatClampNeg := by
  unfold am_ix at h; split at h
  · cases h
  · rename_i q; cases h; exact ⟨q, rfl⟩
/-- may a field of this type take this value as it is? -/
def am_pk : FieldType → Value → Bool
  | .int, .int _ => true
  | .long, .long _ => true
  | .boolean, .int x => x == 0 || x == 1
  | .byte, .int x => x.toInt8.toInt32 == x
  | .object _, .ref _ => true
  | .object _, .null => true
  | .array _, .ref _ => true
  | .array _, .null => true
  | _, _ => false
theorem am_pk_ok {ty : FieldType} {v : Value} (r : Nat → Nat) (h : am_pk ty v = true) : narrow ty (am_v r v) = am_v r v ∧ fits ty (am_v r v) = true := by
  unfold am_pk at h
  split at h
  · exact ⟨rfl, rfl⟩
  · exact ⟨rfl, rfl⟩
  · rename_i x
    refine ⟨?_, h⟩
    simp only [Bool.or_eq_true, beq_iff_eq] at h
    rcases h with h | h <;> (subst h; rfl)
  · rename_i x
    simp only [beq_iff_eq] at h
    refine ⟨congrArg Value.int h, ?_⟩
    have := pk_fb x
    rw [h] at this
    exact this
  · exact ⟨rfl, rfl⟩
  · exact ⟨rfl, rfl⟩
  · exact ⟨rfl, rfl⟩
  · exact ⟨rfl, rfl⟩
  · cases h
def am_nt : ArrayType → Option (Nat × Nat × am_X)
  | .int => some (0, 4, .inl fun _ => 0)
  | .long => some (1, 8, .inr (.inl fun _ => 0))
  | .byte => some (2, 1, .inl fun _ => 0)
  | .boolean => some (3, 1, .inl fun _ => 0)
  | _ => none
/-- the number that stands for Object's constructor -/
def am_oi : Nat := 1000000
def am_cat (st : List Value) : Nat := (st.map fun v => v.category).sum
def am_bn (t : Nat) (x : Int32) : Int32 := if t = 2 then x.toInt8.toInt32 else x &&& 1
def am_sm (x : Option Nat) : Bool := match x with
  | none => true
  | some a => Nat.blt a am_M
/-- the class of an array's elements -/
def am_ec (t : Nat) : Nat := match t with
  | 4 => 9
  | 5 => 3
  | 6 => 10
  | _ => 7
def am_so (h : am_H) (x : Option Nat) (c : Nat) : Bool := match x with
  | none => true
  | some v => am_oc h v == some c
/-- instructions over the cells: a a word's place or a target, b and c what the operand means -/
def am_hp (sc : am_Sc) (F L : Nat) (i : Instr) (a b c : Nat) (pc : Nat) (st : List Value) (h : am_H) (k n : Nat) : Option (Nat × List Value × am_H × Nat × Nat) := match i with
  | .getfield _ => (am_popR st).bind fun q => (am_ob h q.1 b).bind fun fs => (fs[c]?).bind fun v => some (pc + 3, v :: q.2, h, k, n)
  | .putfield _ => (am_popV st).bind fun q => (am_popR q.2).bind fun w => (am_ob h w.1 b).bind fun fs => if c < fs.length ∧ am_pk (am_ft b c) q.1 = true then some (pc + 3, w.2, h.set w.1 (.inr (b, fs.set c q.1)), k, n) else none
  | .iaload => (am_popI st).bind fun q => (am_popR q.2).bind fun w => if w.1 = am_M then sc.bind fun z => (am_ix q.1 z.1).bind fun j => some (pc + 1, .int (z.2 j) :: w.2, h, k, n) else (am_ai h w.1).bind fun x => if x.1 = 0 then (am_ix q.1 x.2.1).bind fun j => some (pc + 1, .int (x.2.2 j) :: w.2, h, k, n) else none
  | .baload => (am_popI st).bind fun q => (am_popR q.2).bind fun w => (am_ai h w.1).bind fun x => if x.1 = 2 ∨ x.1 = 3 then (am_ix q.1 x.2.1).bind fun j => some (pc + 1, .int (x.2.2 j) :: w.2, h, k, n) else none
  | .laload => (am_popI st).bind fun q => (am_popR q.2).bind fun w => (am_al h w.1).bind fun x => if x.1 = 1 then (am_ix q.1 x.2.1).bind fun j => some (pc + 1, .long (x.2.2 j) :: w.2, h, k, n) else none
  | .aaload => (am_popI st).bind fun q => (am_popR q.2).bind fun w => (am_aq h w.1).bind fun x => if 4 ≤ x.1 ∧ x.1 < 8 then (am_ix q.1 x.2.1).bind fun j => some (pc + 1, va_rf (x.2.2 j) :: w.2, h, k, n) else none
  | .iastore => (am_popI st).bind fun q => (am_popI q.2).bind fun w => (am_popR w.2).bind fun u => (am_ai h u.1).bind fun x => if x.1 = 0 then (am_ix w.1 x.2.1).bind fun j => some (pc + 1, u.2, h.set u.1 (.inl (0, x.2.1, .inl (upd x.2.2 j q.1))), k, n) else none
  | .bastore => (am_popI st).bind fun q => (am_popI q.2).bind fun w => (am_popR w.2).bind fun u => (am_ai h u.1).bind fun x => if x.1 = 2 ∨ x.1 = 3 then (am_ix w.1 x.2.1).bind fun j => some (pc + 1, u.2, h.set u.1 (.inl (x.1, x.2.1, .inl (upd x.2.2 j (am_bn x.1 q.1)))), k, n) else none
  | .lastore => (am_popL st).bind fun q => (am_popI q.2).bind fun w => (am_popR w.2).bind fun u => (am_al h u.1).bind fun x => if x.1 = 1 then (am_ix w.1 x.2.1).bind fun j => some (pc + 1, u.2, h.set u.1 (.inl (1, x.2.1, .inr (.inl (vp_updL x.2.2 j q.1)))), k, n) else none
  | .aastore => (am_popQ st).bind fun q => (am_popI q.2).bind fun w => (am_popR w.2).bind fun u => (am_aq h u.1).bind fun x => if 4 ≤ x.1 ∧ x.1 < 8 ∧ am_so h q.1 (am_ec x.1) = true then (am_ix w.1 x.2.1).bind fun j => some (pc + 1, u.2, h.set u.1 (.inl (x.1, x.2.1, .inr (.inr (.inr (.inr (va_up x.2.2 j q.1)))))), k, n) else none
  | .arraylength => (am_popR st).bind fun q => if q.1 = am_M then sc.bind fun z => some (pc + 1, .int (Int32.ofNat z.1) :: q.2, h, k, n) else (am_an h q.1).bind fun x => if x.1 < 8 then some (pc + 1, .int (Int32.ofNat x.2.1) :: q.2, h, k, n) else none
  | .new _ => if h.length < am_M then some (pc + 3, .ref h.length :: st, h ++ [.inr (b, am_df b)], k + 1, n + am_cN b) else none
  | .newarray t => (am_nt t).bind fun d => (am_popI st).bind fun q => if q.1 < 0 then none else if q.1.toNatClampNeg * d.2.1 ≤ 536870912 ∧ h.length < am_M then some (pc + 2, .ref h.length :: q.2, h ++ [.inl (d.1, q.1.toNatClampNeg, d.2.2)], k + 1, n + q.1.toNatClampNeg) else none
  | .anewarray _ => (am_popI st).bind fun q => if q.1 < 0 then none else if q.1.toNatClampNeg * 4 ≤ 536870912 ∧ h.length < am_M then some (pc + 3, .ref h.length :: q.2, h ++ [.inl (b, q.1.toNatClampNeg, .inr (.inr (.inr (.inr fun _ => none))))], k + 1, n + q.1.toNatClampNeg) else none
  | .getstatic _ => some (pc + 3, .ref (am_M + (b + 1)) :: st, h, k, n)
  | .ldc _ => some (pc + 2, .int (Int32.ofNat b) :: st, h, k, n)
  | .ldc_w _ => some (pc + 3, .int (Int32.ofNat b) :: st, h, k, n)
  | .ldc2_w _ => some (pc + 3, .long (Int64.ofNat b) :: st, h, k, n)
  | .invokespecial _ => if b = am_oi then (am_popR st).bind fun q => if 1 ≤ F ∧ 20 ≤ L ∧ am_cat q.2 ≤ 8 then some (pc + 3, q.2, h, k, n) else none else none
  | .if_acmp .eq _ => (am_popQ st).bind fun q => (am_popQ q.2).bind fun w => if am_sm q.1 = true ∧ am_sm w.1 = true then some (if w.1 = q.1 then a else pc + 3, w.2, h, k, n) else none
  | .if_acmp .ne _ => (am_popQ st).bind fun q => (am_popQ q.2).bind fun w => if am_sm q.1 = true ∧ am_sm w.1 = true then some (if ¬ w.1 = q.1 then a else pc + 3, w.2, h, k, n) else none
  | _ => none
