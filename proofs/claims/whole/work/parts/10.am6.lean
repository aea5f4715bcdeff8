/-! The judgement am_S: from an abstract state a method comes to its end with Q; its rules: a step, an answer, a call, an entry. -/
def am_f (P : am_P) (sc : am_Sc) (F L j : Nat) (x : am_St) : Option am_St := (P.1 j x.1).bind fun i =>
  match am_p1 i.1 x.1 x.2.1 x.2.2.1 with
  | some y => some (y.1, y.2.1, y.2.2, x.2.2.2)
  | none => match am_p2 i.1 x.2.2.1 with
    | some y => some (x.1 + 1, x.2.1, y, x.2.2.2)
    | none => match am_p3 i.1 i.2.2.1 x.1 x.2.2.1 with
      | some y => some (y.1, x.2.1, y.2, x.2.2.2)
      | none => match am_hp sc F L i.1 i.2.2.1 i.2.2.2.1 i.2.2.2.2 x.1 x.2.2.1 x.2.2.2.1 x.2.2.2.2.1 x.2.2.2.2.2 with
        | some y => some (y.1, x.2.1, y.2.1, y.2.2)
        | none => none
def am_isSw (i : Instr) : Bool := match i with
  | .tableswitch _ _ _ _ => true
  | _ => false
def am_brok (i : Instr) (pc a : Nat) : Bool := match am_isBr i with
  | some off => decide ((pc : Int) + off = (a : Int))
  | none => true
/-- what the tables must say for a call -/
def am_kck (P : am_P) (own : String) (i : Instr) (a b c : Nat) : Bool := match i with
  | .invokevirtual x => match P.2 b with
    | some d => am_wd a (.methodLink own x d.1) && d.2.2.2.2.1 == 0
    | none => false
  | .invokestatic x => match P.2 b with
    | some d => am_wd a (.methodLink own x d.1) && d.2.2.2.2.1 == 1
    | none => false
  | .invokespecial x => if b = am_oi then true else match P.2 b with
    | some d => d.2.2.2.2.1 == 2 && (if c = 1 then decide (.methodLinkNest own x d.1 "SettlementHouse" ∈ am_nws) else am_wd a (.methodLink own x d.1))
    | none => false
  | _ => true
def am_ick (P : am_P) (d : am_Hd) (pc : Nat) (i : am_I) : Bool := decide (decode d.2.1 pc = .ok (i.1, i.2.1)) && ((am_isSw i.1 || i.2.1 == am_len i.1) && (am_brok i.1 pc i.2.2.1 && (am_ck d.1.cls d.1.name i.1 pc i.2.2.1 i.2.2.2.1 i.2.2.2.2 && am_kck P d.1.cls i.1 i.2.2.1 i.2.2.2.1 i.2.2.2.2)))
/-- what the tables must say of a method -/
def am_hck (d : am_Hd) : Bool := plainName d.1.cls && (decide (d.1.cls ≠ "java/lang/invoke/MethodHandle" ∧ d.1.cls ≠ "java/lang/invoke/VarHandle") && (decide ((parseMethodDescriptor d.1.desc).map (fun x => x.parameters.length) = some d.2.2.2.2.2.1) && (am_wd d.2.2.2.2.2.2.2.1 (.code d.1 d.2.1 d.2.2.1 d.2.2.2.1) && (am_wd d.2.2.2.2.2.2.2.2.1 (.initialized d.1.cls) && (match d.2.2.2.2.1 with
  | 0 => am_wd d.2.2.2.2.2.2.2.2.2.1 (.instanceMethod d.1) && (am_wd d.2.2.2.2.2.2.2.2.2.2 (.selects d.1.cls d.1 d.1) && am_cw d.2.2.2.2.2.2.1 (fun q => q.1 == d.1.cls))
  | 1 => am_wd d.2.2.2.2.2.2.2.2.2.1 (.static d.1)
  | 2 => am_wd d.2.2.2.2.2.2.2.2.2.1 (.instanceMethod d.1) && (d.1.name == "<init>" && d.2.2.2.1 == none)
  | 3 => am_wd d.2.2.2.2.2.2.2.2.2.1 (.instanceMethod d.1) && (am_wd d.2.2.2.2.2.2.2.2.2.2 (.selects d.1.cls d.1 d.1) && d.1.cls == "java/lang/String")
  | _ => false)))))
def am_ok (P : am_P) (j : Nat) : Prop := ∃ d, P.2 j = some d ∧ ∀ pc i, P.1 j pc = some i → am_ick P d pc i = true
def am_hok (P : am_P) (j : Nat) : Prop := ∃ d, P.2 j = some d ∧ am_hck d = true
def am_Cx (d : am_Hd) (p : Program) (s : State) (m : MethodId) (args : Array Value) (meth : Method) (c : Code) : Prop := p.tables.exec = Jvm.exec ∧ c.code = d.2.1 ∧ c.maxLocals = d.2.2.1 ∧ s.vm.findClass d.1.cls = some m.cls ∧ (∀ w ∈ am_ws, w.before args s = true) ∧ (Jvm.Cond.sameField "java/util/ArrayList" "java/util/AbstractList" "modCount" "I").before args s = true ∧ meth.sig.returnType = d.2.2.2.1 ∧ meth.locks = false ∧ meth.name = d.1.name
def am_isR (t : Option FieldType) : Prop := ∃ ty, t = some ty ∧ ((∃ n, ty = .object n) ∨ ∃ u, ty = .array u)
/-- the instruction at pc ends the method with this answer -/
def am_rt (d : am_Hd) (pc : Nat) (r : Option Value) : Prop := match r with
  | none => d.2.2.2.1 = none ∧ decode d.2.1 pc = .ok (.return_, 1)
  | some (.int v) => (∃ ty, d.2.2.2.1 = some ty ∧ narrow ty (.int v) = .int v) ∧ decode d.2.1 pc = .ok (.ireturn, 1)
  | some (.long _) => d.2.2.2.1 = some .long ∧ decode d.2.1 pc = .ok (.lreturn, 1)
  | some (.ref _) => am_isR d.2.2.2.1 ∧ decode d.2.1 pc = .ok (.areturn, 1)
  | some .null => am_isR d.2.2.2.1 ∧ decode d.2.1 pc = .ok (.areturn, 1)
  | _ => False
def am_S (P : am_P) (sc : am_Sc) (F L mc ms j : Nat) (x : am_St) (Q : Option Value → am_H → Prop) : Prop :=
  ∀ (d : am_Hd), P.2 j = some d → ∀ (p : Program) (l : Launch) (e : Env) (R : Room) (s : State) (m : MethodId) (args : Array Value) (below : List Frame) (meth : Method) (c : Code) (g : am_G) (Z : State → Prop),
    am_Cx d p s m args meth c → am_K g sc s → R.frames = F → R.locals = L → R.cells = mc → R.slots = ms →
    (∀ (r : Option Value) (h' : am_H), Q r h' → ∀ (H' : Heap) (locs' : List Loc) (k n pc : Nat) (ls : Array Slot), am_Wd g h' H' locs' → k ≤ mc → n ≤ ms → am_rt d pc r → W p l e R s m args below meth c H' locs' k n Z (F0 m pc ls (r.toList.map (am_v (am_r g))))) →
    ∀ (H : Heap) (locs : List Loc) (ls : Array Slot), am_Wd g x.2.2.2.1 H locs → am_L (am_r g) x.2.1 ls d.2.2.1 → W p l e R s m args below meth c H locs x.2.2.2.2.1 x.2.2.2.2.2 Z (F0 m x.1 ls (x.2.2.1.map (am_v (am_r g))))
section AM4
variable {P : am_P} {sc : am_Sc} {F L mc ms j : Nat} {x x' : am_St} {Q : Option Value → am_H → Prop}
theorem am_step (ok : am_ok P j) (hf : am_f P sc F L j x = some x') (hk' : x'.2.2.2.2.1 ≤ mc) (hn' : x'.2.2.2.2.2 ≤ ms) (kk : am_S P sc F L mc ms j x' Q) : am_S P sc F L mc ms j x Q := by
  intro d hd p l e R s m args below meth c g Z hC hK h1 h2 h3 h4 hZ H locs ls hW hL
  obtain ⟨d', hd', hi⟩ := ok
  obtain rfl : d = d' := Option.some.inj (hd.symm.trans hd')
  have kk := kk d hd p l e R s m args below meth c g Z hC hK h1 h2 h3 h4 hZ
  obtain ⟨hx, hb, hml, hown, hts, hsf, hr, hlk, hnm⟩ := hC
  obtain ⟨i, hP, hf⟩ := Option.bind_eq_some_iff.mp hf
  have hc := hi x.1 i hP
  unfold am_ick at hc
  simp only [Bool.and_eq_true, decide_eq_true_eq, Bool.or_eq_true, beq_iff_eq] at hc
  obtain ⟨c1, c2, c3, c4, c5⟩ := hc
  obtain ⟨pc, lo, st, h, k, n⟩ := x
  dsimp only at hf c1 c2 c3 c4 kk hW hL ⊢
  split at hf
  · rename_i y hy
    obtain ⟨y1, y2, y3⟩ := y
    cases hf
    have hsw : i.2.1 = am_len i.1 := c2.resolve_left (fun q => by
      cases hii : i.1 <;> rw [hii] at q hy <;> first | (exact Bool.noConfusion q) | (cases hy))
    rw [hsw] at c1
    exact am_s1 hx hb hy c1 hL (fun ls' hL' => kk H locs ls' hW hL')
  · split at hf
    · rename_i y hy
      cases hf
      have hsw : i.2.1 = am_len i.1 := c2.resolve_left (fun q => by
        cases hii : i.1 <;> rw [hii] at q hy <;> first | (exact Bool.noConfusion q) | (cases hy))
      rw [hsw] at c1
      exact am_s2 hx hb hy c1 (kk H locs ls hW hL)
    · split at hf
      · rename_i y hy
        obtain ⟨y1, y2⟩ := y
        cases hf
        refine am_s3 hx hb hy c1 ?_ ?_ (kk H locs ls hW hL)
        · rcases c2 with q | q
          · left
            cases hii : i.1 <;> rw [hii] at q <;> first | rfl | (exact Bool.noConfusion q)
          · cases hii : i.1 <;> rw [hii] at q hy <;> first | (left; rfl) | (right; exact q)
        · intro off ho
          unfold am_brok at c3
          rw [ho] at c3
          exact of_decide_eq_true c3
      · split at hf
        · rename_i y hy
          obtain ⟨y1, y2, y3, y4, y5⟩ := y
          cases hf
          have hsw : i.2.1 = am_len i.1 := c2.resolve_left (fun q => by
            cases hii : i.1 <;> rw [hii] at q hy <;> first | (exact Bool.noConfusion q) | (cases hy))
          rw [hsw] at c1
          exact am_s4 hx hb hts hown hK (by rw [hL.2.1, hml]) (Nat.le_of_eq h1.symm) (Nat.le_of_eq h2.symm) (Nat.le_of_eq h3.symm) (Nat.le_of_eq h4.symm) hsf hk' hn' hy (by rw [hnm]; exact c4) c1 hW (fun H1 locs1 hW1 => kk H1 locs1 ls hW1 hL)
        · cases hf
theorem am_hp_mono {i : Instr} {a b c pc pc' : Nat} {st st' : List Value} {h h' : am_H} {k n k' n' : Nat} (hf : am_hp sc F L i a b c pc st h k n = some (pc', st', h', k', n')) : k ≤ k' ∧ n ≤ n' := by
  cases i with
  | getfield x =>
    obtain ⟨_, _, hf1⟩ := Option.bind_eq_some_iff.mp hf
    obtain ⟨_, _, hf2⟩ := Option.bind_eq_some_iff.mp hf1
    obtain ⟨_, _, hf3⟩ := Option.bind_eq_some_iff.mp hf2
    cases hf3; exact ⟨Nat.le_refl _, Nat.le_refl _⟩
  | putfield x =>
    obtain ⟨_, _, hf4⟩ := Option.bind_eq_some_iff.mp hf
    obtain ⟨_, _, hf5⟩ := Option.bind_eq_some_iff.mp hf4
    obtain ⟨_, _, hf6⟩ := Option.bind_eq_some_iff.mp hf5
    split at hf6
    · cases hf6; exact ⟨Nat.le_refl _, Nat.le_refl _⟩
    · cases hf6
  | iaload =>
    obtain ⟨_, _, hf7⟩ := Option.bind_eq_some_iff.mp hf
    obtain ⟨_, _, hf8⟩ := Option.bind_eq_some_iff.mp hf7
    split at hf8
    · obtain ⟨_, _, hf9⟩ := Option.bind_eq_some_iff.mp hf8
      obtain ⟨_, _, hf10⟩ := Option.bind_eq_some_iff.mp hf9
      cases hf10; exact ⟨Nat.le_refl _, Nat.le_refl _⟩
    · obtain ⟨_, _, hf11⟩ := Option.bind_eq_some_iff.mp hf8
      split at hf11
      · obtain ⟨_, _, hf12⟩ := Option.bind_eq_some_iff.mp hf11
        cases hf12; exact ⟨Nat.le_refl _, Nat.le_refl _⟩
      · cases hf11
  | baload =>
    obtain ⟨_, _, hf13⟩ := Option.bind_eq_some_iff.mp hf
    obtain ⟨_, _, hf14⟩ := Option.bind_eq_some_iff.mp hf13
    obtain ⟨_, _, hf15⟩ := Option.bind_eq_some_iff.mp hf14
    split at hf15
    · obtain ⟨_, _, hf16⟩ := Option.bind_eq_some_iff.mp hf15
      cases hf16; exact ⟨Nat.le_refl _, Nat.le_refl _⟩
    · cases hf15
  | laload =>
    obtain ⟨_, _, hf17⟩ := Option.bind_eq_some_iff.mp hf
    obtain ⟨_, _, hf18⟩ := Option.bind_eq_some_iff.mp hf17
    obtain ⟨_, _, hf19⟩ := Option.bind_eq_some_iff.mp hf18
    split at hf19
    · obtain ⟨_, _, hf20⟩ := Option.bind_eq_some_iff.mp hf19
      cases hf20; exact ⟨Nat.le_refl _, Nat.le_refl _⟩
    · cases hf19
  | aaload =>
    obtain ⟨_, _, hf21⟩ := Option.bind_eq_some_iff.mp hf
    obtain ⟨_, _, hf22⟩ := Option.bind_eq_some_iff.mp hf21
    obtain ⟨_, _, hf23⟩ := Option.bind_eq_some_iff.mp hf22
    split at hf23
    · obtain ⟨_, _, hf24⟩ := Option.bind_eq_some_iff.mp hf23
      cases hf24; exact ⟨Nat.le_refl _, Nat.le_refl _⟩
    · cases hf23
  | iastore =>
    obtain ⟨_, _, hf25⟩ := Option.bind_eq_some_iff.mp hf
    obtain ⟨_, _, hf26⟩ := Option.bind_eq_some_iff.mp hf25
    obtain ⟨_, _, hf27⟩ := Option.bind_eq_some_iff.mp hf26
    obtain ⟨_, _, hf28⟩ := Option.bind_eq_some_iff.mp hf27
    split at hf28
    · obtain ⟨_, _, hf29⟩ := Option.bind_eq_some_iff.mp hf28
      cases hf29; exact ⟨Nat.le_refl _, Nat.le_refl _⟩
    · cases hf28
  | bastore =>
    obtain ⟨_, _, hf30⟩ := Option.bind_eq_some_iff.mp hf
    obtain ⟨_, _, hf31⟩ := Option.bind_eq_some_iff.mp hf30
    obtain ⟨_, _, hf32⟩ := Option.bind_eq_some_iff.mp hf31
    obtain ⟨_, _, hf33⟩ := Option.bind_eq_some_iff.mp hf32
    split at hf33
    · obtain ⟨_, _, hf34⟩ := Option.bind_eq_some_iff.mp hf33
      cases hf34; exact ⟨Nat.le_refl _, Nat.le_refl _⟩
    · cases hf33
  | lastore =>
    obtain ⟨_, _, hf35⟩ := Option.bind_eq_some_iff.mp hf
    obtain ⟨_, _, hf36⟩ := Option.bind_eq_some_iff.mp hf35
    obtain ⟨_, _, hf37⟩ := Option.bind_eq_some_iff.mp hf36
    obtain ⟨_, _, hf38⟩ := Option.bind_eq_some_iff.mp hf37
    split at hf38
    · obtain ⟨_, _, hf39⟩ := Option.bind_eq_some_iff.mp hf38
      cases hf39; exact ⟨Nat.le_refl _, Nat.le_refl _⟩
    · cases hf38
  | aastore =>
    obtain ⟨_, _, hf40⟩ := Option.bind_eq_some_iff.mp hf
    obtain ⟨_, _, hf41⟩ := Option.bind_eq_some_iff.mp hf40
    obtain ⟨_, _, hf42⟩ := Option.bind_eq_some_iff.mp hf41
    obtain ⟨_, _, hf43⟩ := Option.bind_eq_some_iff.mp hf42
    split at hf43
    · obtain ⟨_, _, hf44⟩ := Option.bind_eq_some_iff.mp hf43
      cases hf44; exact ⟨Nat.le_refl _, Nat.le_refl _⟩
    · cases hf43
  | arraylength =>
    obtain ⟨_, _, hf45⟩ := Option.bind_eq_some_iff.mp hf
    split at hf45
    · obtain ⟨_, _, hf46⟩ := Option.bind_eq_some_iff.mp hf45
      cases hf46; exact ⟨Nat.le_refl _, Nat.le_refl _⟩
    · obtain ⟨_, _, hf47⟩ := Option.bind_eq_some_iff.mp hf45
      split at hf47
      · cases hf47; exact ⟨Nat.le_refl _, Nat.le_refl _⟩
      · cases hf47
  | new x =>
    change (if _ then _ else _) = _ at hf
    split at hf
    · cases hf; exact ⟨Nat.le_add_right _ _, Nat.le_add_right _ _⟩
    · cases hf
  | newarray t =>
    obtain ⟨_, _, hf48⟩ := Option.bind_eq_some_iff.mp hf
    obtain ⟨_, _, hf49⟩ := Option.bind_eq_some_iff.mp hf48
    split at hf49
    · cases hf49
    · split at hf49
      · cases hf49; exact ⟨Nat.le_add_right _ _, Nat.le_add_right _ _⟩
      · cases hf49
  | anewarray x =>
    obtain ⟨_, _, hf50⟩ := Option.bind_eq_some_iff.mp hf
    split at hf50
    · cases hf50
    · split at hf50
      · cases hf50; exact ⟨Nat.le_add_right _ _, Nat.le_add_right _ _⟩
      · cases hf50
  | getstatic x =>
    cases hf; exact ⟨Nat.le_refl _, Nat.le_refl _⟩
  | ldc x =>
    cases hf; exact ⟨Nat.le_refl _, Nat.le_refl _⟩
  | ldc_w x =>
    cases hf; exact ⟨Nat.le_refl _, Nat.le_refl _⟩
  | ldc2_w x =>
    cases hf; exact ⟨Nat.le_refl _, Nat.le_refl _⟩
  | invokespecial x =>
    change (if _ then _ else _) = _ at hf
    split at hf
    · obtain ⟨_, _, hf51⟩ := Option.bind_eq_some_iff.mp hf
      split at hf51
      · cases hf51; exact ⟨Nat.le_refl _, Nat.le_refl _⟩
      · cases hf51
    · cases hf
  | if_acmp cnd off =>
    cases cnd with
    | eq =>
      obtain ⟨_, _, hf52⟩ := Option.bind_eq_some_iff.mp hf
      obtain ⟨_, _, hf53⟩ := Option.bind_eq_some_iff.mp hf52
      split at hf53
      · cases hf53; exact ⟨Nat.le_refl _, Nat.le_refl _⟩
      · cases hf53
    | ne =>
      obtain ⟨_, _, hf54⟩ := Option.bind_eq_some_iff.mp hf
      obtain ⟨_, _, hf55⟩ := Option.bind_eq_some_iff.mp hf54
      split at hf55
      · cases hf55; exact ⟨Nat.le_refl _, Nat.le_refl _⟩
      · cases hf55
  | _ => cases hf
theorem am_mono (hf : am_f P sc F L j x = some x') : x.2.2.2.2.1 ≤ x'.2.2.2.2.1 ∧ x.2.2.2.2.2 ≤ x'.2.2.2.2.2 := by
  obtain ⟨i, hP, hf⟩ := Option.bind_eq_some_iff.mp hf
  split at hf
  · cases hf; exact ⟨Nat.le_refl _, Nat.le_refl _⟩
  · split at hf
    · cases hf; exact ⟨Nat.le_refl _, Nat.le_refl _⟩
    · split at hf
      · cases hf; exact ⟨Nat.le_refl _, Nat.le_refl _⟩
      · split at hf
        · rename_i y hy
          cases hf
          obtain ⟨y1, y2, y3, y4, y5⟩ := y
          exact am_hp_mono hy
        · cases hf
/-- several steps at once -/
def am_fn (P : am_P) (sc : am_Sc) (F L j : Nat) : Nat → am_St → Option am_St
  | 0, x => some x
  | n + 1, x => (am_f P sc F L j x).bind (am_fn P sc F L j n)
theorem am_fn_mono (n : Nat) : ∀ {x x' : am_St}, am_fn P sc F L j n x = some x' → x.2.2.2.2.1 ≤ x'.2.2.2.2.1 ∧ x.2.2.2.2.2 ≤ x'.2.2.2.2.2 := by
  induction n with
  | zero => intro x x' hf; cases hf; exact ⟨Nat.le_refl _, Nat.le_refl _⟩
  | succ n ih =>
    intro x x' hf
    obtain ⟨y, h1, h2⟩ := Option.bind_eq_some_iff.mp hf
    exact ⟨Nat.le_trans (am_mono h1).1 (ih h2).1, Nat.le_trans (am_mono h1).2 (ih h2).2⟩
theorem am_steps (ok : am_ok P j) (n : Nat) : ∀ {x x' : am_St}, am_fn P sc F L j n x = some x' → x'.2.2.2.2.1 ≤ mc → x'.2.2.2.2.2 ≤ ms → am_S P sc F L mc ms j x' Q → am_S P sc F L mc ms j x Q := by
  induction n with
  | zero => intro x x' hf _ _ kk; cases hf; exact kk
  | succ n ih =>
    intro x x' hf h1 h2 kk
    obtain ⟨y, q1, q2⟩ := Option.bind_eq_some_iff.mp hf
    have hm := am_fn_mono n q2
    exact am_step ok q1 (Nat.le_trans hm.1 h1) (Nat.le_trans hm.2 h2) (ih q2 h1 h2 kk)
/-- a branch whose condition is open -/
theorem am_if {c : Prop} [Decidable c] {t f : Nat} {lo : am_Lo} {st : List Value} {y : am_H × Nat × Nat} (h1 : c → am_S P sc F L mc ms j (t, lo, st, y) Q) (h2 : ¬ c → am_S P sc F L mc ms j (f, lo, st, y) Q) : am_S P sc F L mc ms j (if c then t else f, lo, st, y) Q := by
  by_cases hc : c
  · rw [if_pos hc]; exact h1 hc
  · rw [if_neg hc]; exact h2 hc
theorem am_conseq {Q' : Option Value → am_H → Prop} (h : am_S P sc F L mc ms j x Q') (hQ : ∀ r h', Q' r h' → Q r h') : am_S P sc F L mc ms j x Q := by
  intro d hd p l e R s m args below meth c g Z hC hK h1 h2 h3 h4 hZ
  exact h d hd p l e R s m args below meth c g Z hC hK h1 h2 h3 h4 (fun r h' hq => hZ r h' (hQ r h' hq))
/-- the answer of a method that ends here -/
def am_rf (P : am_P) (j : Nat) (pc : Nat) (st : List Value) : Option (Option Value) := (P.1 j pc).bind fun i => (P.2 j).bind fun d => match i.1, st with
  | .return_, [] => if d.2.2.2.1 = none then some none else none
  | .ireturn, [.int v] => match d.2.2.2.1 with
    | some .int => some (some (.int v))
    | some .boolean => if v = 0 ∨ v = 1 then some (some (.int v)) else none
    | _ => none
  | .lreturn, [.long v] => if d.2.2.2.1 = some .long then some (some (.long v)) else none
  | .areturn, [.ref v] => match d.2.2.2.1 with
    | some (.object _) => some (some (.ref v))
    | some (.array _) => some (some (.ref v))
    | _ => none
  | .areturn, [.null] => match d.2.2.2.1 with
    | some (.object _) => some (some .null)
    | some (.array _) => some (some .null)
    | _ => none
  | _, _ => none
theorem am_rf_eq {d : am_Hd} (hd : P.2 j = some d) (hi : ∀ pc i, P.1 j pc = some i → am_ick P d pc i = true) {pc : Nat} {st : List Value} {r : Option Value} (h : am_rf P j pc st = some r) : st = r.toList ∧ am_rt d pc r := by
  obtain ⟨i, hP, h1⟩ := Option.bind_eq_some_iff.mp h
  clear h
  obtain ⟨d', hd', h⟩ := Option.bind_eq_some_iff.mp h1
  clear h1
  obtain rfl : d = d' := Option.some.inj (hd.symm.trans hd')
  have hc := hi pc i hP
  unfold am_ick at hc
  simp only [Bool.and_eq_true, decide_eq_true_eq, Bool.or_eq_true, beq_iff_eq] at hc
  obtain ⟨c1, c2, -⟩ := hc
  split at h
  · rename_i hii
    split at h
    · rename_i hq; cases h
      refine ⟨rfl, hq, ?_⟩
      rw [hii] at c1 c2
      rw [c1, c2.resolve_left (fun q => Bool.noConfusion q)]; rfl
    · cases h
  · rename_i hii
    rw [hii] at c1 c2
    have c3 := c2.resolve_left (fun q => Bool.noConfusion q)
    rw [c3] at c1
    split at h
    · rename_i hq; cases h; exact ⟨rfl, ⟨_, hq, rfl⟩, c1⟩
    · rename_i hq
      split at h
      · rename_i hv; cases h
        refine ⟨rfl, ⟨_, hq, ?_⟩, c1⟩
        rcases hv with hv | hv <;> (subst hv; rfl)
      · cases h
    · cases h
  · rename_i hii
    split at h
    · rename_i hq; cases h
      refine ⟨rfl, hq, ?_⟩
      rw [hii] at c1 c2
      rw [c1, c2.resolve_left (fun q => Bool.noConfusion q)]; rfl
    · cases h
  · rename_i hii
    rw [hii] at c1 c2
    have c3 := c2.resolve_left (fun q => Bool.noConfusion q)
    rw [c3] at c1
    split at h
    · rename_i hq; cases h; exact ⟨rfl, ⟨_, hq, Or.inl ⟨_, rfl⟩⟩, c1⟩
    · rename_i hq; cases h; exact ⟨rfl, ⟨_, hq, Or.inr ⟨_, rfl⟩⟩, c1⟩
    · cases h
  · rename_i hii
    rw [hii] at c1 c2
    have c3 := c2.resolve_left (fun q => Bool.noConfusion q)
    rw [c3] at c1
    split at h
    · rename_i hq; cases h; exact ⟨rfl, ⟨_, hq, Or.inl ⟨_, rfl⟩⟩, c1⟩
    · rename_i hq; cases h; exact ⟨rfl, ⟨_, hq, Or.inr ⟨_, rfl⟩⟩, c1⟩
    · cases h
  · cases h
theorem am_ret (ok : am_ok P j) {r : Option Value} (hf : am_rf P j x.1 x.2.2.1 = some r) (hk : x.2.2.2.2.1 ≤ mc) (hn : x.2.2.2.2.2 ≤ ms) (hq : Q r x.2.2.2.1) : am_S P sc F L mc ms j x Q := by
  intro d hd p l e R s m args below meth c g Z hC hK h1 h2 h3 h4 hZ H locs ls hW hL
  obtain ⟨d', hd', hi⟩ := ok
  obtain rfl : d = d' := Option.some.inj (hd.symm.trans hd')
  obtain ⟨e1, e2⟩ := am_rf_eq hd hi hf
  rw [e1]
  exact hZ r _ hq H locs _ _ x.1 ls hW hk hn e2
end AM4
