/-! What the printed contracts of the class stand on. -/
def hQv (S' : hS) (sh0 : List (Nat × Nat)) (h0 : am_H) : Option Value → am_H → Prop := fun r h' => r = none ∧ RH S' h' ∧ hF h0 h' ∧ hE sh0 S'.1
def hQr (v : Value) (S' : hS) (sh0 : List (Nat × Nat)) (h0 : am_H) : Option Value → am_H → Prop := fun r h' => r = some v ∧ RH S' h' ∧ hF h0 h' ∧ hE sh0 S'.1
def hQo (v : Value) (o : Option Nat) (kd : Nat) (S' : hS) (sh0 : List (Nat × Nat)) (h0 : am_H) : Option Value → am_H → Prop := fun r h' => r = some v ∧ (∀ b, o = some b → hK S'.1 b kd) ∧ RH S' h' ∧ hF h0 h' ∧ hE sh0 S'.1
def hPo (v : Value) (o : Option Nat) (kd : Nat) (sh0 : List (Nat × Nat)) (h0 : am_H) : Option Value → am_H → Prop := fun r h' => r = some v ∧ h' = h0 ∧ ∀ b, o = some b → hK sh0 b kd
theorem hs_k {S : hS} {h : am_H} (hR : RH S h) {a kd n : Nat} (hp : hs_fix[a]? = some (kd, n)) : hK S.1 a kd := ⟨n, hR.2.2.2.2.2.get hp⟩
theorem hs_ln {S : hS} {h : am_H} (hR : RH S h) {a kd n : Nat} (hp : hs_fix[a]? = some (kd, n)) : hln S.1 a = n := by
  unfold hln
  rw [hR.2.2.2.2.2.get hp]
theorem hK.lt {sh : List (Nat × Nat)} {b kd : Nat} (h : hK sh b kd) : b < sh.length := by
  obtain ⟨n, hn⟩ := h
  exact (List.getElem?_eq_some_iff.mp hn).1
theorem hs_pkz {v : Int32} (h : v = 0 ∨ v = 1) : am_pk .boolean (.int v) = true := by
  rcases h with h | h <;> (subst h; rfl)
/-- where the next cell lies -/
def hs_al (S : hS) : Option Nat := if S.1.length < am_M then some S.1.length else none
theorem hs_al1 {S : hS} {a : Nat} (h : hs_al S = some a) : S.1.length < am_M := by
  unfold hs_al at h
  split at h
  · assumption
  · cases h
theorem hs_al2 {S : hS} {a : Nat} (h : hs_al S = some a) : S.1.length = a := by
  unfold hs_al at h
  split at h
  · cases h; rfl
  · cases h
theorem hs_al3 {S : hS} {a kd : Nat} {sh : List (Nat × Nat)} (h : hs_al S = some a) (hk : hK sh S.1.length kd) : hK sh a kd := by
  rw [← hs_al2 h]; exact hk
/-- a length that is none too large -/
def hs_nl (i : Int32) (m : Nat) : Option Nat := if i < 0 ∨ m < i.toNatClampNeg then none else some i.toNatClampNeg
theorem hs_nl1 {i : Int32} {m N : Nat} (h : hs_nl i m = some N) : ¬ i < 0 := by
  unfold hs_nl at h
  split at h
  · cases h
  · rename_i q; exact fun z => q (Or.inl z)
theorem hs_nl2 {i : Int32} {m N : Nat} (h : hs_nl i m = some N) : i.toNatClampNeg = N := by
  unfold hs_nl at h
  split at h
  · cases h
  · cases h; rfl
theorem hs_nl3 {i : Int32} {m N : Nat} (h : hs_nl i m = some N) : N ≤ m := by
  unfold hs_nl at h
  split at h
  · cases h
  · rename_i q; cases h; exact Nat.not_lt.mp fun z => q (Or.inr z)
/-- a reference of the class's own lies below am_M, where cells are counted so -/
def hs_b (S : hS) (o : Option Nat) : Prop := ∀ b, o = some b → b < S.1.length
theorem hs_bd {S : hS} {h : am_H} (_ : RH S h) {o : Option Nat} {kd : Nat} (ho : ∀ b, o = some b → hK S.1 b kd) : hs_b S o := fun b hb => (ho b hb).lt
section HM
variable {P : am_P} {sc : am_Sc} {F L mc ms j : Nat} {Q : Option Value → am_H → Prop} {pc pc' : Nat} {lo lo' : am_Lo} {st : List Value} {h : am_H} {k n : Nat} {S : hS}
theorem am_glQ_of {i : Nat} {o : Option Nat} (hl : lo[i]? = some (some (va_rf o))) : am_glQ lo i = some o := by
  unfold am_glQ
  rw [hl]
  cases o <;> rfl
theorem am_popQ_of (o : Option Nat) : am_popQ (va_rf o :: st) = some (o, st) := by cases o <;> rfl
theorem hr_p1 (ok : am_ok P j) {i : am_I} {y : Nat × am_Lo × List Value} (hi : P.1 j pc = some i) (h1 : am_p1 i.1 pc lo st = some y) (hk : k ≤ mc) (hn : n ≤ ms) (kk : am_S P sc F L mc ms j (y.1, y.2.1, y.2.2, h, k, n) Q) : am_S P sc F L mc ms j (pc, lo, st, h, k, n) Q := am_step ok (am_f_p1 hi h1) hk hn kk
theorem hr_aloadn (ok : am_ok P j) {i : Fin 4} {len a b c : Nat} {o : Option Nat} (hi : P.1 j pc = some (.aload_n i, len, a, b, c)) (hl : lo[i.val]? = some (some (va_rf o))) (hp : pc + 1 = pc') (hk : k ≤ mc) (hn : n ≤ ms) (kk : am_S P sc F L mc ms j (pc', lo, va_rf o :: st, h, k, n) Q) : am_S P sc F L mc ms j (pc, lo, st, h, k, n) Q := by
  subst hp
  refine am_step ok (am_f_p1 hi (y := (pc + 1, lo, va_rf o :: st)) ?_) hk hn kk
  show (am_glQ lo i.val).bind _ = _
  rw [am_glQ_of hl]; rfl
theorem hr_aload (ok : am_ok P j) {i len a b c : Nat} {o : Option Nat} (hi : P.1 j pc = some (.aload i, len, a, b, c)) (hl : lo[i]? = some (some (va_rf o))) (hp : pc + 2 = pc') (hk : k ≤ mc) (hn : n ≤ ms) (kk : am_S P sc F L mc ms j (pc', lo, va_rf o :: st, h, k, n) Q) : am_S P sc F L mc ms j (pc, lo, st, h, k, n) Q := by
  subst hp
  refine am_step ok (am_f_p1 hi (y := (pc + 2, lo, va_rf o :: st)) ?_) hk hn kk
  show (am_glQ lo i).bind _ = _
  rw [am_glQ_of hl]; rfl
theorem hr_astoren (ok : am_ok P j) {i : Fin 4} {len a b c : Nat} {o : Option Nat} (hi : P.1 j pc = some (.astore_n i, len, a, b, c)) (hl : i.val < lo.length) (hs : am_sl1 lo i.val (va_rf o) = lo') (hp : pc + 1 = pc') (hk : k ≤ mc) (hn : n ≤ ms) (kk : am_S P sc F L mc ms j (pc', lo', st, h, k, n) Q) : am_S P sc F L mc ms j (pc, lo, va_rf o :: st, h, k, n) Q := by
  subst hp; subst hs
  refine am_step ok (am_f_p1 hi (y := (pc + 1, am_sl1 lo i.val (va_rf o), st)) ?_) hk hn kk
  show (am_popQ (va_rf o :: st)).bind _ = _
  rw [am_popQ_of]
  exact if_pos hl
theorem hr_astore (ok : am_ok P j) {i len a b c : Nat} {o : Option Nat} (hi : P.1 j pc = some (.astore i, len, a, b, c)) (hl : i < lo.length) (hs : am_sl1 lo i (va_rf o) = lo') (hp : pc + 2 = pc') (hk : k ≤ mc) (hn : n ≤ ms) (kk : am_S P sc F L mc ms j (pc', lo', st, h, k, n) Q) : am_S P sc F L mc ms j (pc, lo, va_rf o :: st, h, k, n) Q := by
  subst hp; subst hs
  refine am_step ok (am_f_p1 hi (y := (pc + 2, am_sl1 lo i (va_rf o), st)) ?_) hk hn kk
  show (am_popQ (va_rf o :: st)).bind _ = _
  rw [am_popQ_of]
  exact if_pos hl
theorem am_f_p3 {i : am_I} {y : Nat × List Value} (hi : P.1 j pc = some i) (h1 : am_p1 i.1 pc lo st = none) (h2 : am_p2 i.1 st = none) (h3 : am_p3 i.1 i.2.2.1 pc st = some y) : am_f P sc F L j (pc, lo, st, h, k, n) = some (y.1, lo, y.2, h, k, n) := by
  unfold am_f
  rw [hi]
  show (match am_p1 i.1 pc lo st with | some y => _ | none => _) = _
  rw [h1]
  show (match am_p2 i.1 st with | some y => _ | none => _) = _
  rw [h2]
  show (match am_p3 i.1 i.2.2.1 pc st with | some y => _ | none => _) = _
  rw [h3]
theorem hr_ifnull (ok : am_ok P j) {off : Int} {len b c t : Nat} {o : Option Nat} (hi : P.1 j pc = some (.ifnull off, len, t, b, c)) (hp : pc + 3 = pc') (hk : k ≤ mc) (hn : n ≤ ms) (kk : am_S P sc F L mc ms j (if o = none then t else pc', lo, st, h, k, n) Q) : am_S P sc F L mc ms j (pc, lo, va_rf o :: st, h, k, n) Q := by
  subst hp
  refine am_step ok (am_f_p3 hi rfl rfl (y := (if o = none then t else pc + 3, st)) ?_) hk hn kk
  show (am_popQ (va_rf o :: st)).bind _ = _
  rw [am_popQ_of]
  cases o <;> rfl
theorem hr_ifnon (ok : am_ok P j) {off : Int} {len b c t : Nat} {o : Option Nat} (hi : P.1 j pc = some (.ifnonnull off, len, t, b, c)) (hp : pc + 3 = pc') (hk : k ≤ mc) (hn : n ≤ ms) (kk : am_S P sc F L mc ms j (if o = none then pc' else t, lo, st, h, k, n) Q) : am_S P sc F L mc ms j (pc, lo, va_rf o :: st, h, k, n) Q := by
  subst hp
  refine am_step ok (am_f_p3 hi rfl rfl (y := (if o = none then pc + 3 else t, st)) ?_) hk hn kk
  show (am_popQ (va_rf o :: st)).bind _ = _
  rw [am_popQ_of]
  cases o <;> rfl
theorem hs_sm {g : am_G} {H : Heap} {locs : List Loc} (hR : RH S h) (hW : am_Wd g h H locs) {o : Option Nat} (ho : hs_b S o) : am_sm o = true := by
  cases o with
  | none => rfl
  | some b =>
    have h1 := ho b rfl
    have h2 := hW.1
    rw [hR.1] at h2
    exact Nat.ble_eq_true_of_le (Nat.lt_of_lt_of_le h1 h2)
theorem hr_aceq (ok : am_ok P j) {off : Int} {len b c t : Nat} {o w : Option Nat} (hi : P.1 j pc = some (.if_acmp .eq off, len, t, b, c)) (hR : RH S h) (ho : hs_b S o) (hw : hs_b S w) (hp : pc + 3 = pc') (kk : am_S P sc F L mc ms j (if w = o then t else pc', lo, st, h, k, n) Q) : am_S P sc F L mc ms j (pc, lo, va_rf o :: va_rf w :: st, h, k, n) Q := by
  subst hp
  intro d hd p l e R s m args below meth c g Z hC hK h1 h2 h3 h4 hZ H locs ls hW hLo
  obtain ⟨d0, hd0, hi0⟩ := ok
  obtain rfl : d = d0 := Option.some.inj (hd.symm.trans hd0)
  have kk := kk d hd p l e R s m args below meth c g Z hC hK h1 h2 h3 h4 hZ H locs ls hW hLo
  obtain ⟨hxe, hb, -⟩ := hC
  have hck := hi0 pc _ hi
  unfold am_ick at hck
  simp only [Bool.and_eq_true, decide_eq_true_eq, Bool.or_eq_true, beq_iff_eq] at hck
  obtain ⟨c1, c2, c3, c4, c5⟩ := hck
  have c2 := c2.resolve_left (fun q => Bool.noConfusion q)
  rw [c2] at c1
  have ht : (pc : Int) + off = (t : Int) := by simpa [am_ck] using c4
  dsimp only at kk ⊢
  rw [List.map_cons, List.map_cons, am_v_rf, am_v_rf]
  have hj := am_rinj (g := g) (hs_sm hR hW hw) (hs_sm hR hW ho)
  exact lv_acmp_eq hxe hb c1 ht (fun z => by rw [if_pos (hj.mp z)] at kk; exact kk) (fun z => by rw [if_neg (fun q => z (hj.mpr q))] at kk; exact kk)
theorem hr_acne (ok : am_ok P j) {off : Int} {len b c t : Nat} {o w : Option Nat} (hi : P.1 j pc = some (.if_acmp .ne off, len, t, b, c)) (hR : RH S h) (ho : hs_b S o) (hw : hs_b S w) (hp : pc + 3 = pc') (kk : am_S P sc F L mc ms j (if w = o then pc' else t, lo, st, h, k, n) Q) : am_S P sc F L mc ms j (pc, lo, va_rf o :: va_rf w :: st, h, k, n) Q := by
  subst hp
  intro d hd p l e R s m args below meth c g Z hC hK h1 h2 h3 h4 hZ H locs ls hW hLo
  obtain ⟨d0, hd0, hi0⟩ := ok
  obtain rfl : d = d0 := Option.some.inj (hd.symm.trans hd0)
  have kk := kk d hd p l e R s m args below meth c g Z hC hK h1 h2 h3 h4 hZ H locs ls hW hLo
  obtain ⟨hxe, hb, -⟩ := hC
  have hck := hi0 pc _ hi
  unfold am_ick at hck
  simp only [Bool.and_eq_true, decide_eq_true_eq, Bool.or_eq_true, beq_iff_eq] at hck
  obtain ⟨c1, c2, c3, c4, c5⟩ := hck
  have c2 := c2.resolve_left (fun q => Bool.noConfusion q)
  rw [c2] at c1
  have ht : (pc : Int) + off = (t : Int) := by simpa [am_ck] using c4
  dsimp only at kk ⊢
  rw [List.map_cons, List.map_cons, am_v_rf, am_v_rf]
  have hj := am_rinj (g := g) (hs_sm hR hW hw) (hs_sm hR hW ho)
  exact lv_acmp_ne hxe hb c1 ht (fun z => by rw [if_neg (fun q => z (hj.mpr q))] at kk; exact kk) (fun z => by rw [if_pos (hj.mp z)] at kk; exact kk)
/-- an answer that may be null -/
theorem hr_ret (ok : am_ok P j) {o : Option Nat} {len a b c : Nat} (hi : P.1 j pc = some (.areturn, len, a, b, c)) (hr : ∃ d, P.2 j = some d ∧ am_isR d.2.2.2.1) (hk : k ≤ mc) (hn : n ≤ ms) (hq : Q (some (va_rf o)) h) : am_S P sc F L mc ms j (pc, lo, [va_rf o], h, k, n) Q := by
  intro d hd p l e R s m args below meth c g Z hC hK h1 h2 h3 h4 hZ H locs ls hW hLo
  obtain ⟨d0, hd0, hi0⟩ := ok
  obtain rfl : d = d0 := Option.some.inj (hd.symm.trans hd0)
  obtain ⟨d1, hd1, hr⟩ := hr
  obtain rfl : d = d1 := Option.some.inj (hd.symm.trans hd1)
  have hck := hi0 pc _ hi
  unfold am_ick at hck
  simp only [Bool.and_eq_true, decide_eq_true_eq, Bool.or_eq_true, beq_iff_eq] at hck
  obtain ⟨c1, c2, c3, c4, c5⟩ := hck
  have c2 := c2.resolve_left (fun q => Bool.noConfusion q)
  rw [c2] at c1
  have h0 := hZ (some (va_rf o)) h hq H locs k n pc ls hW hk hn
  cases o with
  | none => exact h0 ⟨hr, c1⟩
  | some b => exact h0 ⟨hr, c1⟩
end HM
