/-! The reference: finding an instruction, queueing it, another priority. -/
def opK (w : Nat) (nm : List Nat) : Nat → List Ins → Option Nat
  | _, [] => none
  | k, i :: l => if i.who = w ∧ i.nm = nm then some k else opK w nm (k + 1) l
theorem opK_fnd {w : Nat} {nm : List Nat} : ∀ {l : List Ins} {k : Nat}, (∀ j, opK w nm k l = some j → ∃ i, k ≤ j ∧ l[j - k]? = some i ∧ (l.find? fun i => decide (i.who = w ∧ i.nm = nm)) = some i) ∧ (opK w nm k l = none → (l.find? fun i => decide (i.who = w ∧ i.nm = nm)) = none) := by
  intro l
  induction l with
  | nil => exact fun {k} => ⟨fun j h => (by cases h), fun _ => rfl⟩
  | cons a l ih =>
    intro k
    unfold opK
    by_cases c : a.who = w ∧ a.nm = nm
    · rw [if_pos c]
      refine ⟨fun j h => ?_, fun h => (by cases h)⟩
      cases h
      exact ⟨a, Nat.le_refl _, by rw [Nat.sub_self]; rfl, by rw [List.find?_cons, decide_eq_true c]⟩
    · rw [if_neg c]
      obtain ⟨h1, h2⟩ := ih (k := k + 1)
      refine ⟨fun j h => ?_, fun h => ?_⟩
      · obtain ⟨i, p1, p2, p3⟩ := h1 j h
        refine ⟨i, by omega, ?_, ?_⟩
        · rw [show j - k = (j - (k + 1)) + 1 by omega]; exact p2
        · rw [List.find?_cons, decide_eq_false c]; exact p3
      · rw [List.find?_cons, decide_eq_false c]; exact h2 h
/-- where it lies -/
def Z.opk (z : Z) (w : Nat) (nm : List Nat) : Option Nat := opK w nm 0 z.ins
theorem opk_some {z : Z} {w : Nat} {nm : List Nat} {k : Nat} (h : z.opk w nm = some k) : ∃ i, z.ins[k]? = some i ∧ z.opn w nm = some i := by
  obtain ⟨i, _, p2, p3⟩ := (opK_fnd (w := w) (nm := nm) (l := z.ins) (k := 0)).1 k h
  exact ⟨i, p2, p3⟩
theorem opk_none {z : Z} {w : Nat} {nm : List Nat} (h : z.opk w nm = none) : z.opn w nm = none := (opK_fnd (w := w) (nm := nm) (l := z.ins) (k := 0)).2 h
theorem d_open_loop {s : mS} {z : Z} (hQ : MQu s z) (hL : z.ins.length ≤ 250) (hok : ∀ i ∈ z.ins, i.who < 256 ∧ i.nm.length = 8 ∧ is36 i.nm) {w : Nat} {nm : List Nat} (hw : w < 256) (hn : nm.length = 8) (h36 : is36 nm) : ∀ (d fu j : Nat), z.ins.length - j = d → d < fu → j ≤ z.ins.length → l_Mo_openOf_3 fu (nI w) (lI (b256 nm : Nat)) (nI j) s = some (oI (opK w nm j (z.ins.drop j))) := by
  intro d
  induction d with
  | zero =>
    intro fu j hd hf hj
    obtain ⟨fu, rfl⟩ : ∃ f, fu = f + 1 := ⟨fu - 1, by omega⟩
    unfold l_Mo_openOf_3
    rw [hQ.many, if_pos (nI_le0 (by omega) (by omega) (by omega)), List.drop_of_length_le (by omega)]; rfl
  | succ d ih =>
    intro fu j hd hf hj
    obtain ⟨fu, rfl⟩ : ∃ f, fu = f + 1 := ⟨fu - 1, by omega⟩
    obtain ⟨i, hi⟩ := get_lt (ks := z.ins) (j := j) (by omega)
    obtain ⟨a1, a2, a3⟩ := hok i (List.mem_of_getElem? hi)
    have hI := hQ.ins j i hi
    have l1 := b256_inL a2 a3
    have l2 := b256_inL hn h36
    have IH := ih fu (j + 1) (by omega) (by omega) (by omega)
    unfold l_Mo_openOf_3
    rw [hQ.many, if_neg (nI_ngt (by omega) (by omega) (by omega)), ix_N (by omega) (by omega), Option.bind_some, hI.who, hI.nm, nI_add1, drop_cons hi]
    unfold opK
    by_cases c1 : i.who = w
    · rw [if_neg (fun q => q (by rw [c1]))]
      by_cases c2 : i.nm = nm
      · rw [if_neg (fun q => q ((cmp_eq0 l1 l2).mpr (by rw [c2]))), if_pos ⟨c1, c2⟩]; rfl
      · rw [if_pos (fun q => c2 (b256_inj 8 i.nm nm a2 hn a3 h36 (by have := (cmp_eq0 l1 l2).mp q; omega))), if_neg (fun q => c2 q.2)]; exact IH
    · rw [if_pos (fun q => c1 (nI_inj (by omega) (by omega) q)), if_neg (fun q => c1 q.1)]; exact IH
theorem d_open {n : Nat} {s : mS} {z : Z} (hQ : MQu s z) (hO : okZ n z) {w : Nat} {nm : List Nat} (hw : w < 256) (hn : nm.length = 8) (h36 : is36 nm) : d_Mo_openOf (nI w) (lI (b256 nm : Nat)) s = some (oI (z.opk w nm)) := by
  have hm := hO.mem
  have hl := hO.ins
  have := d_open_loop hQ hO.ins (fun i hi => ⟨by have := (hO.oki i hi).who; omega, (hO.oki i hi).nm⟩) hw hn h36 _ 100000 0 rfl (by omega) (by omega)
  rw [List.drop_zero] at this
  exact this
/-! The row of one instruction. -/
/-- nothing of the row k changed -/
def ME (s s' : mS) (k : Nat) : Prop := (∀ a ∈ [43, 44, 45, 48], s'.2.2.1 a k = s.2.2.1 a k) ∧ (∀ a ∈ [46, 47], s'.2.2.2 a k = s.2.2.2 a k) ∧ (∀ a ∈ [50, 51, 52, 54], ∀ j, j < 4 → s'.2.2.1 a (4 * k + j) = s.2.2.1 a (4 * k + j)) ∧ (∀ j, j < 4 → s'.2.2.2 53 (4 * k + j) = s.2.2.2 53 (4 * k + j))
theorem MI.me {s s' : mS} {k : Nat} {i : Ins} (h : MI s k i) (e : ME s s' k) (hl : i.legs.length ≤ 4) : MI s' k i := by
  obtain ⟨e1, e2, e3, e4⟩ := e
  refine ⟨(e1 _ (by decide)).trans h.who, (e1 _ (by decide)).trans h.pr, (e1 _ (by decide)).trans h.len, (e2 _ (by decide)).trans h.nm, (e2 _ (by decide)).trans h.tn, (e1 _ (by decide)).trans h.wt, fun j l hj => ?_⟩
  have hj4 : j < 4 := by have := get_lt' hj; omega
  obtain ⟨a1, a2, a3, a4, a5⟩ := h.lg j l hj
  exact ⟨(e3 _ (by decide) j hj4).trans a1, (e3 _ (by decide) j hj4).trans a2, (e3 _ (by decide) j hj4).trans a3, (e4 j hj4).trans a4, (e3 _ (by decide) j hj4).trans a5⟩
theorem rep_get {L : List Ins} (hu : L.Pairwise fun i j => ¬ (i.who = j.who ∧ i.nm = j.nm)) {k : Nat} {i i' : Ins} (hk : L[k]? = some i) (h1 : i'.who = i.who) (h2 : i'.nm = i.nm) {t : Nat} {j : Ins} (ht : (repL i' L)[t]? = some j) : (t = k ∧ j = i') ∨ (t ≠ k ∧ L[t]? = some j) := by
  unfold repL at ht
  rw [List.getElem?_map] at ht
  cases ha : L[t]? with
  | none => rw [ha] at ht; cases ht
  | some a =>
    rw [ha, Option.map_some] at ht
    have e : (if sameK i' a then i' else a) = j := Option.some.inj ht
    rw [sameK_of h1 h2] at e
    by_cases c : t = k
    · subst c
      rw [hk] at ha
      cases ha
      rw [sameK_iff.mpr ⟨rfl, rfl⟩, if_pos rfl] at e
      exact Or.inl ⟨rfl, e.symm⟩
    · refine Or.inr ⟨c, ?_⟩
      have : sameK i a = false := by
        cases hs : sameK i a with
        | false => rfl
        | true =>
          exfalso
          obtain ⟨q1, q2⟩ := sameK_iff.mp hs
          obtain ⟨x1, y1⟩ := List.getElem?_eq_some_iff.mp hk
          obtain ⟨x2, y2⟩ := List.getElem?_eq_some_iff.mp ha
          rcases Nat.lt_or_gt_of_ne c with d | d
          · exact List.pairwise_iff_getElem.mp hu t k x2 x1 d ⟨by rw [y1, y2]; exact q1.symm, by rw [y1, y2]; exact q2.symm⟩
          · exact List.pairwise_iff_getElem.mp hu k t x1 x2 d ⟨by rw [y1, y2]; exact q1, by rw [y1, y2]; exact q2⟩
      rw [this, if_neg (by decide)] at e
      rw [e]
/-- one row replaced -/
theorem MQu.rep {s s' : mS} {z : Z} (hQ : MQu s z) (hu : z.ins.Pairwise fun i j => ¬ (i.who = j.who ∧ i.nm = j.nm)) (hlg : ∀ i ∈ z.ins, i.legs.length ≤ 4) {k : Nat} {i i' : Ins} (hk : z.ins[k]? = some i) (h1 : i'.who = i.who) (h2 : i'.nm = i.nm) (e31 : s'.1 31 = s.1 31) (he : ∀ t, t ≠ k → ME s s' t) (hI : MI s' k i') {T : Nat} (hT : s'.2.1 45 = lI T) : MQu s' (z.wIT (repL i' z.ins) T) := by
  refine ⟨?_, fun t j ht => ?_, hT⟩
  · rw [e31, hQ.many, wIT_ins, rep_len]
  · rw [wIT_ins] at ht
    rcases rep_get hu hk h1 h2 ht with ⟨c1, c2⟩ | ⟨c1, c2⟩
    · rw [c1, c2]; exact hI
    · exact (hQ.ins t j c2).me (he t c1) (hlg j (List.mem_of_getElem? c2))
/-- all agreed? -/
theorem d_queue_loop {s : mS} {k : Nat} {ls : List Leg} {ag : List Nat} (hk : k < 250) (hl : ls.length ≤ 4) (h45 : s.2.2.1 45 k = nI ls.length) (h54 : ∀ (j : Nat) (l : Leg), ls[j]? = some l → s.2.2.1 54 (4 * k + j) = b2i (ag.contains l.f)) : ∀ (d fu j : Nat) (b : Bool), ls.length - j = d → d < fu → j ≤ ls.length → l_Mo_queue_4 fu (nI k) (b2i b) (nI j) s = some (b2i (b && (ls.drop j).all fun l => ag.contains l.f)) := by
  intro d
  induction d with
  | zero =>
    intro fu j b hd hf hj
    obtain ⟨fu, rfl⟩ : ∃ f, fu = f + 1 := ⟨fu - 1, by omega⟩
    unfold l_Mo_queue_4
    rw [ix_N (by omega) (by omega), Option.bind_some, h45, if_pos (nI_le0 (by omega) (by omega) (by omega)), List.drop_of_length_le (by omega), List.all_nil, Bool.and_true]
  | succ d ih =>
    intro fu j b hd hf hj
    obtain ⟨fu, rfl⟩ : ∃ f, fu = f + 1 := ⟨fu - 1, by omega⟩
    obtain ⟨l, hlj⟩ := get_lt (ks := ls) (j := j) (by omega)
    have i1 : 4 * nI k + nI j = nI (4 * k + j) := by rw [show (4 : Int32) = nI 4 from rfl, nI_mul, nI_add']
    unfold l_Mo_queue_4
    rw [ix_N (by omega) (by omega), Option.bind_some, h45, if_neg (nI_ngt (by omega) (by omega) (by omega)), i1, ix_N (by omega) (by omega), Option.bind_some, h54 j l hlj, nI_add1, drop_cons hlj, List.all_cons]
    cases b with
    | false =>
      rw [if_pos (by decide), Option.bind_some]
      have := ih fu (j + 1) false (by omega) (by omega) (by omega)
      rw [Bool.false_and] at this ⊢
      exact this
    | true =>
      rw [if_neg (by decide)]
      cases hc : ag.contains l.f with
      | false =>
        rw [if_pos (by decide), Option.bind_some]
        have := ih fu (j + 1) false (by omega) (by omega) (by omega)
        rw [Bool.false_and] at this ⊢
        exact this
      | true =>
        rw [if_neg (by decide), Option.bind_some]
        have := ih fu (j + 1) true (by omega) (by omega) (by omega)
        rw [Bool.true_and] at this ⊢
        rw [Bool.true_and]
        exact this
theorem d_queue {s : mS} {k : Nat} {i : Ins} (hk : k < 250) (hl : i.legs.length ≤ 4) (h45 : s.2.2.1 45 k = nI i.legs.length) (h54 : ∀ (j : Nat) (l : Leg), i.legs[j]? = some l → s.2.2.1 54 (4 * k + j) = b2i (i.ag.contains l.f)) {T : Nat} (hT : s.2.1 45 = lI T) : d_Mo_queue (nI k) s = some (if i.wt then mB (mL (mA s 48 k 1) 45 (lI (T + 1 : Nat))) 47 k (lI (T + 1 : Nat)) else s) := by
  unfold d_Mo_queue
  have h1 : l_Mo_queue_4 100000 (nI k) 1 0 s = some (b2i i.wt) := by
    have := d_queue_loop hk hl h45 h54 _ 100000 0 true rfl (by omega) (by omega)
    rw [List.drop_zero, Bool.true_and] at this
    exact this
  have e1 : s.2.1 45 + 1 = lI (T + 1 : Nat) := by
    rw [hT, show (1 : Int64) = lI 1 from rfl, lI_add]; rfl
  rw [h1, Option.bind_some]
  cases i.wt with
  | false => rw [if_neg (by decide)]; rfl
  | true => rw [if_pos (by decide), ix_N hk (by omega), Option.bind_some, e1]; rfl
/-- another priority -/
theorem d_changes {n : Nat} {s : mS} {z : Z} (hQ : MQu s z) (hO : okZ n z) {k : Nat} {i : Ins} (hk : z.ins[k]? = some i) {pr : Nat} (h24 : s.2.2.1 24 23 - 48 = nI pr) : ∃ s', d_Mo_changes (nI k) s = some s' ∧ MQu s' (if i.wt then z.wIT (repL (mkIns i.who i.nm pr (z.turns + 1) i.legs i.ag) z.ins) (z.turns + 1) else z.wIT (repL (mkIns i.who i.nm pr i.tn i.legs i.ag) z.ins) z.turns) ∧ mX [] [45] [44] [47] s s' := by
  have hl := hO.ins
  have hkl := get_lt' hk
  have hI := hQ.ins k i hk
  have hlg : ∀ i ∈ z.ins, i.legs.length ≤ 4 := fun i hi => (hO.oki i hi).len.2
  have e1 : s.2.1 45 + 1 = lI (z.turns + 1 : Nat) := by
    rw [hQ.turns, show (1 : Int64) = lI 1 from rfl, lI_add]; rfl
  have hun : d_Mo_changes (nI k) s = (if ¬ (b2i i.wt : Int32) = 0 then (some (mB (mL (mA s 44 k (nI pr)) 45 (lI (z.turns + 1 : Nat))) 47 k (lI (z.turns + 1 : Nat)))) else (some (mA s 44 k (nI pr)))) := by
    unfold d_Mo_changes
    rw [show am_ix 23 400 = some 23 from by decide, Option.bind_some, ix_N (by omega) (by omega), Option.bind_some, hI.wt, h24, e1]
  rw [hun]
  cases hwt : i.wt with
  | true =>
    rw [if_pos (by decide), if_pos rfl]
    have eA : ∀ a j, a ≠ 44 → (mB (mL (mA s 44 k (nI pr)) 45 (lI (z.turns + 1 : Nat))) 47 k (lI (z.turns + 1 : Nat))).2.2.1 a j = s.2.2.1 a j := fun a j h => (show (mA s 44 k (nI pr)).2.2.1 a j = _ from mA_ne h)
    have eP : (mB (mL (mA s 44 k (nI pr)) 45 (lI (z.turns + 1 : Nat))) 47 k (lI (z.turns + 1 : Nat))).2.2.1 44 k = nI pr := (show (mA s 44 k (nI pr)).2.2.1 44 k = _ from (mA_at _ _ _ _ _).trans (if_pos rfl))
    refine ⟨_, rfl, MQu.rep (s' := mB (mL (mA s 44 k (nI pr)) 45 (lI (z.turns + 1 : Nat))) 47 k (lI (z.turns + 1 : Nat))) (i' := mkIns i.who i.nm pr (z.turns + 1) i.legs i.ag) hQ hO.unq hlg hk rfl rfl rfl (fun t ht => ⟨fun a ha => ?_, fun a ha => ?_, fun a ha j hj => ?_, fun j hj => ?_⟩) ⟨?_, ?_, ?_, ?_, ?_, ?_, fun j l hj => ?_⟩ ?_, ((mX.rf.A (by decide)).L (by decide)).B (by decide)⟩
    · show (mA s 44 k (nI pr)).2.2.1 a t = _
      rw [mA_get]
      by_cases c : a = 44
      · rw [if_pos c, if_neg ht]
      · rw [if_neg c]
    · rw [mB_get]
      by_cases c : a = 47
      · rw [if_pos c, if_neg ht]; rfl
      · rw [if_neg c]; rfl
    · show (mA s 44 k (nI pr)).2.2.1 a _ = _
      exact mA_ne (fun c => by rw [c] at ha; revert ha; decide)
    · exact mB_ne (by decide)
    · exact (eA _ _ (by decide)).trans hI.who
    · exact eP
    · exact (eA _ _ (by decide)).trans hI.len
    · exact (mB_ne (by decide)).trans hI.nm
    · exact (mB_at _ _ _ _ _).trans (if_pos rfl)
    · refine (eA _ _ (by decide)).trans (hI.wt.trans ?_); rfl
    · obtain ⟨a1, a2, a3, a4, a5⟩ := hI.lg j l hj
      exact ⟨(eA _ _ (by decide)).trans a1, (eA _ _ (by decide)).trans a2, (eA _ _ (by decide)).trans a3, (mB_ne (by decide)).trans a4, (eA _ _ (by decide)).trans a5⟩
    · show va_up s.2.1 45 _ 45 = _
      exact if_pos rfl
  | false =>
    rw [if_neg (by decide), if_neg (by decide)]
    refine ⟨_, rfl, MQu.rep (s' := mA s 44 k (nI pr)) (i' := mkIns i.who i.nm pr i.tn i.legs i.ag) hQ hO.unq hlg hk rfl rfl rfl (fun t ht => ⟨fun a ha => ?_, fun a ha => rfl, fun a ha j hj => ?_, fun j hj => rfl⟩) ⟨?_, ?_, ?_, hI.nm, hI.tn, ?_, fun j l hj => ?_⟩ hQ.turns, mX.rf.A (by decide)⟩
    · rw [mA_get]
      by_cases c : a = 44
      · rw [if_pos c, if_neg ht]
      · rw [if_neg c]
    · exact mA_ne (fun c => by rw [c] at ha; revert ha; decide)
    · exact (mA_ne (by decide)).trans hI.who
    · exact (mA_at _ _ _ _ _).trans (if_pos rfl)
    · exact (mA_ne (by decide)).trans hI.len
    · refine (mA_ne (by decide)).trans (hI.wt.trans ?_); rfl
    · obtain ⟨a1, a2, a3, a4, a5⟩ := hI.lg j l hj
      exact ⟨(mA_ne (by decide)).trans a1, (mA_ne (by decide)).trans a2, (mA_ne (by decide)).trans a3, a4, (mA_ne (by decide)).trans a5⟩
