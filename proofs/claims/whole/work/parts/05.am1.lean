/-! The abstract machine: a small functional machine over cells by number; addresses are counted from 0, the script lies at am_M. -/
def am_M : Nat := 16777216
abbrev am_Ce : Type := (Nat × vp_A) ⊕ (Nat × List Value)
abbrev am_H : Type := List am_Ce
/-- an instruction with what its operand means: instruction, length, three numbers -/
abbrev am_I : Type := Instr × Nat × Nat × Nat × Nat
/-- a method: name, bytes, locals, answer's type, kind (0 virtual, 1 static, 2 constructor), parameters, class; places of its words code, initialized, instanceMethod or static, selects -/
abbrev am_Hd : Type := MethodName × ByteArray × Nat × Option FieldType × Nat × Nat × Nat × Nat × Nat × Nat × Nat
abbrev am_P : Type := (Nat → Nat → Option am_I) × (Nat → Option am_Hd)
abbrev am_Lo : Type := List (Option Value)
/-- place, locals, stack, cells, how many cells and slots were made -/
abbrev am_St : Type := Nat × am_Lo × List Value × am_H × Nat × Nat
abbrev am_Sc : Type := Option (Nat × (Nat → Int32))
def am_popI : List Value → Option (Int32 × List Value)
  | .int x :: r => some (x, r)
  | _ => none
def am_popL : List Value → Option (Int64 × List Value)
  | .long x :: r => some (x, r)
  | _ => none
def am_popR : List Value → Option (Nat × List Value)
  | .ref x :: r => some (x, r)
  | _ => none
def am_popQ : List Value → Option (Option Nat × List Value)
  | .ref x :: r => some (some x, r)
  | .null :: r => some (none, r)
  | _ => none
def am_popV : List Value → Option (Value × List Value)
  | v :: r => some (v, r)
  | _ => none
theorem am_popI_eq {st r : List Value} {x : Int32} (h : am_popI st = some (x, r)) : st = .int x :: r := by
  unfold am_popI at h; split at h
  · cases h; rfl
  · cases h
theorem am_popL_eq {st r : List Value} {x : Int64} (h : am_popL st = some (x, r)) : st = .long x :: r := by
  unfold am_popL at h; split at h
  · cases h; rfl
  · cases h
theorem am_popR_eq {st r : List Value} {x : Nat} (h : am_popR st = some (x, r)) : st = .ref x :: r := by
  unfold am_popR at h; split at h
  · cases h; rfl
  · cases h
theorem am_popQ_eq {st r : List Value} {x : Option Nat} (h : am_popQ st = some (x, r)) : st = va_rf x :: r := by
  unfold am_popQ at h; split at h
  · cases h; rfl
  · cases h; rfl
  · cases h
theorem am_popV_eq {st r : List Value} {x : Value} (h : am_popV st = some (x, r)) : st = x :: r := by
  unfold am_popV at h; split at h
  · cases h; rfl
  · cases h
def am_glI (lo : am_Lo) (i : Nat) : Option Int32 := match lo[i]? with
  | some (some (.int x)) => some x
  | _ => none
def am_glL (lo : am_Lo) (i : Nat) : Option Int64 := match lo[i]? with
  | some (some (.long x)) => some x
  | _ => none
def am_glQ (lo : am_Lo) (i : Nat) : Option (Option Nat) := match lo[i]? with
  | some (some (.ref x)) => some (some x)
  | some (some .null) => some none
  | _ => none
theorem am_glI_eq {lo : am_Lo} {i : Nat} {x : Int32} (h : am_glI lo i = some x) : lo[i]? = some (some (.int x)) := by
  unfold am_glI at h; split at h
  · rename_i q; cases h; exact q
  · cases h
theorem am_glL_eq {lo : am_Lo} {i : Nat} {x : Int64} (h : am_glL lo i = some x) : lo[i]? = some (some (.long x)) := by
  unfold am_glL at h; split at h
  · rename_i q; cases h; exact q
  · cases h
theorem am_glQ_eq {lo : am_Lo} {i : Nat} {x : Option Nat} (h : am_glQ lo i = some x) : lo[i]? = some (some (va_rf x)) := by
  unfold am_glQ at h; split at h
  · rename_i q; cases h; exact q
  · rename_i q; cases h; exact q
  · cases h
/-- a store: what lay there goes, also a long that began one place lower -/
def am_cut (lo : am_Lo) : Nat → am_Lo
  | 0 => lo
  | j + 1 => match lo[j]? with
    | some (some w) => if w.category = 2 then lo.set j none else lo
    | _ => lo
def am_sl1 (lo : am_Lo) (i : Nat) (v : Value) : am_Lo := (am_cut lo i).set i (some v)
def am_sl2 (lo : am_Lo) (i : Nat) (v : Value) : am_Lo := ((am_cut lo i).set i (some v)).set (i + 1) none
/-- instructions over locals and stack alone -/
def am_p1 (i : Instr) (pc : Nat) (lo : am_Lo) (st : List Value) : Option (Nat × am_Lo × List Value) := match i with
  | .iconst v => some (pc + 1, lo, .int (Int32.ofInt v) :: st)
  | .bipush v => some (pc + 2, lo, .int (Int8.ofInt v).toInt32 :: st)
  | .sipush v => some (pc + 3, lo, .int (Int16.ofInt v).toInt32 :: st)
  | .lconst v => some (pc + 1, lo, .long (Int64.ofNat v) :: st)
  | .aconst_null => some (pc + 1, lo, .null :: st)
  | .iload_n i => (am_glI lo i).bind fun x => some (pc + 1, lo, .int x :: st)
  | .iload i => (am_glI lo i).bind fun x => some (pc + 2, lo, .int x :: st)
  | .lload_n i => (am_glL lo i).bind fun x => some (pc + 1, lo, .long x :: st)
  | .lload i => (am_glL lo i).bind fun x => some (pc + 2, lo, .long x :: st)
  | .aload_n i => (am_glQ lo i).bind fun x => some (pc + 1, lo, va_rf x :: st)
  | .aload i => (am_glQ lo i).bind fun x => some (pc + 2, lo, va_rf x :: st)
  | .istore_n i => (am_popI st).bind fun q => if i.val < lo.length then some (pc + 1, am_sl1 lo i (.int q.1), q.2) else none
  | .istore i => (am_popI st).bind fun q => if i < lo.length then some (pc + 2, am_sl1 lo i (.int q.1), q.2) else none
  | .lstore_n i => (am_popL st).bind fun q => if i.val + 1 < lo.length then some (pc + 1, am_sl2 lo i (.long q.1), q.2) else none
  | .lstore i => (am_popL st).bind fun q => if i + 1 < lo.length then some (pc + 2, am_sl2 lo i (.long q.1), q.2) else none
  | .astore_n i => (am_popQ st).bind fun q => if i.val < lo.length then some (pc + 1, am_sl1 lo i (va_rf q.1), q.2) else none
  | .astore i => (am_popQ st).bind fun q => if i < lo.length then some (pc + 2, am_sl1 lo i (va_rf q.1), q.2) else none
  | .iinc i d => (am_glI lo i).bind fun x => if i < lo.length then some (pc + 3, am_sl1 lo i (.int (x + Int32.ofInt d)), st) else none
  | .dup => (am_popV st).bind fun q => if q.1.category = 1 then some (pc + 1, lo, q.1 :: q.1 :: q.2) else none
  | .dup_x1 => (am_popV st).bind fun q => (am_popV q.2).bind fun w => if q.1.category = 1 ∧ w.1.category = 1 then some (pc + 1, lo, q.1 :: w.1 :: q.1 :: w.2) else none
  | .pop => (am_popV st).bind fun q => if q.1.category = 1 then some (pc + 1, lo, q.2) else none
  | .dup2 => (am_popV st).bind fun q => if q.1.category = 2 then some (pc + 1, lo, q.1 :: q.1 :: q.2) else (am_popV q.2).bind fun w => if q.1.category = 1 ∧ w.1.category = 1 then some (pc + 1, lo, q.1 :: w.1 :: q.1 :: w.1 :: w.2) else none
  | _ => none
/-- arithmetic -/
def am_p2 (i : Instr) (st : List Value) : Option (List Value) := match i with
  | .iadd => (am_popI st).bind fun q => (am_popI q.2).bind fun w => some (.int (w.1 + q.1) :: w.2)
  | .isub => (am_popI st).bind fun q => (am_popI q.2).bind fun w => some (.int (w.1 - q.1) :: w.2)
  | .imul => (am_popI st).bind fun q => (am_popI q.2).bind fun w => some (.int (w.1 * q.1) :: w.2)
  | .iand => (am_popI st).bind fun q => (am_popI q.2).bind fun w => some (.int (w.1 &&& q.1) :: w.2)
  | .ishr => (am_popI st).bind fun q => (am_popI q.2).bind fun w => some (.int (w.1 >>> (q.1 &&& 31)) :: w.2)
  | .idiv => (am_popI st).bind fun q => (am_popI q.2).bind fun w => if q.1 = 0 then none else some (.int (w.1 / q.1) :: w.2)
  | .irem => (am_popI st).bind fun q => (am_popI q.2).bind fun w => if q.1 = 0 then none else some (.int (w.1 - w.1 / q.1 * q.1) :: w.2)
  | .ladd => (am_popL st).bind fun q => (am_popL q.2).bind fun w => some (.long (w.1 + q.1) :: w.2)
  | .lsub => (am_popL st).bind fun q => (am_popL q.2).bind fun w => some (.long (w.1 - q.1) :: w.2)
  | .lmul => (am_popL st).bind fun q => (am_popL q.2).bind fun w => some (.long (w.1 * q.1) :: w.2)
  | .land => (am_popL st).bind fun q => (am_popL q.2).bind fun w => some (.long (w.1 &&& q.1) :: w.2)
  | .lor => (am_popL st).bind fun q => (am_popL q.2).bind fun w => some (.long (w.1 ||| q.1) :: w.2)
  | .ldiv => (am_popL st).bind fun q => (am_popL q.2).bind fun w => if q.1 = 0 then none else some (.long (w.1 / q.1) :: w.2)
  | .lrem => (am_popL st).bind fun q => (am_popL q.2).bind fun w => if q.1 = 0 then none else some (.long (w.1 - w.1 / q.1 * q.1) :: w.2)
  | .lshl => (am_popI st).bind fun q => (am_popL q.2).bind fun w => some (.long (w.1 <<< (q.1.toInt64 &&& 63)) :: w.2)
  | .lshr => (am_popI st).bind fun q => (am_popL q.2).bind fun w => some (.long (w.1 >>> (q.1.toInt64 &&& 63)) :: w.2)
  | .lcmp => (am_popL st).bind fun q => (am_popL q.2).bind fun w => some (.int (lg_cmp w.1 q.1) :: w.2)
  | .lneg => (am_popL st).bind fun q => some (.long (-q.1) :: q.2)
  | .i2l => (am_popI st).bind fun q => some (.long q.1.toInt64 :: q.2)
  | .l2i => (am_popL st).bind fun q => some (.int q.1.toInt32 :: q.2)
  | .i2b => (am_popI st).bind fun q => some (.int q.1.toInt8.toInt32 :: q.2)
  | _ => none
def am_tgt (pc : Nat) (off : Int) : Option Nat := if 0 ≤ (pc : Int) + off then some ((pc : Int) + off).toNat else none
/-- jumps; t is the target -/
def am_p3 (i : Instr) (t pc : Nat) (st : List Value) : Option (Nat × List Value) := match i with
  | .goto _ => some (t, st)
  | .if_icmp .eq _ => (am_popI st).bind fun q => (am_popI q.2).bind fun w => some (if w.1 = q.1 then t else pc + 3, w.2)
  | .if_icmp .ne _ => (am_popI st).bind fun q => (am_popI q.2).bind fun w => some (if ¬ w.1 = q.1 then t else pc + 3, w.2)
  | .if_icmp .lt _ => (am_popI st).bind fun q => (am_popI q.2).bind fun w => some (if w.1 < q.1 then t else pc + 3, w.2)
  | .if_icmp .ge _ => (am_popI st).bind fun q => (am_popI q.2).bind fun w => some (if q.1 ≤ w.1 then t else pc + 3, w.2)
  | .if_icmp .gt _ => (am_popI st).bind fun q => (am_popI q.2).bind fun w => some (if q.1 < w.1 then t else pc + 3, w.2)
  | .if_icmp .le _ => (am_popI st).bind fun q => (am_popI q.2).bind fun w => some (if w.1 ≤ q.1 then t else pc + 3, w.2)
  | .ifCond .eq _ => (am_popI st).bind fun q => some (if q.1 = 0 then t else pc + 3, q.2)
  | .ifCond .ne _ => (am_popI st).bind fun q => some (if ¬ q.1 = 0 then t else pc + 3, q.2)
  | .ifCond .lt _ => (am_popI st).bind fun q => some (if q.1 < 0 then t else pc + 3, q.2)
  | .ifCond .ge _ => (am_popI st).bind fun q => some (if 0 ≤ q.1 then t else pc + 3, q.2)
  | .ifCond .gt _ => (am_popI st).bind fun q => some (if 0 < q.1 then t else pc + 3, q.2)
  | .ifCond .le _ => (am_popI st).bind fun q => some (if q.1 ≤ 0 then t else pc + 3, q.2)
  | .ifnull _ => (am_popQ st).bind fun q => some (bif q.1.isNone then t else pc + 3, q.2)
  | .ifnonnull _ => (am_popQ st).bind fun q => some (bif q.1.isNone then pc + 3 else t, q.2)
  | .tableswitch d lo hi offs => (am_popI st).bind fun q => if q.1.toInt < lo ∨ hi < q.1.toInt then (am_tgt pc d).bind fun u => some (u, q.2) else (offs[(q.1.toInt - lo).toNat]?).bind fun off => (am_tgt pc off).bind fun u => some (u, q.2)
  | _ => none
def am_isBr (i : Instr) : Option Int := match i with
  | .goto off => some off
  | .if_icmp _ off => some off
  | .ifCond _ off => some off
  | .ifnull off => some off
  | .ifnonnull off => some off
  | _ => none
