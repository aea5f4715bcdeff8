/-! The reference: one agrees. -/
theorem con_app (ag : List Nat) (p x : Nat) : (ag ++ [p]).contains x = (ag.contains x || decide (x = p)) := by
  rw [Bool.eq_iff_iff]
  simp
theorem d_agrees_loop {s : mS} {k p : Nat} {ls : List Leg} {ag : List Nat} (hk : k < 250) (hl : ls.length ≤ 4) (hp : p < 256) (hf : ∀ l ∈ ls, l.f < 256) : ∀ (d fu j : Nat) (s : mS), ls.length - j = d → d < fu → j ≤ ls.length → s.1 5 = nI p → s.2.2.1 45 k = nI ls.length → (∀ (t : Nat) (l : Leg), ls[t]? = some l → s.2.2.1 50 (4 * k + t) = nI l.f) → (∀ (t : Nat) (l : Leg), ls[t]? = some l → s.2.2.1 54 (4 * k + t) = b2i (if t < j then (ag ++ [p]).contains l.f else ag.contains l.f)) → ∃ s', l_Mo_agrees_2 fu (nI k) (nI j) s = some s' ∧ (∀ (t : Nat) (l : Leg), ls[t]? = some l → s'.2.2.1 54 (4 * k + t) = b2i ((ag ++ [p]).contains l.f)) ∧ (∀ q, (∀ t, t < 4 → q ≠ 4 * k + t) → s'.2.2.1 54 q = s.2.2.1 54 q) ∧ mX [] [] [54] [] s s' := by
  intro d
  induction d with
  | zero =>
    intro fu j s hd hf' hj h5 h45 h50 h54
    obtain ⟨fu, rfl⟩ : ∃ f, fu = f + 1 := ⟨fu - 1, by omega⟩
    refine ⟨s, ?_, fun t l ht => ?_, fun _ _ => rfl, mX.rf⟩
    · unfold l_Mo_agrees_2
      rw [ix_N (by omega) (by omega), Option.bind_some, h45, if_pos (nI_le0 (by omega) (by omega) (by omega))]
    · have := h54 t l ht
      rw [if_pos (by have := get_lt' ht; omega)] at this
      exact this
  | succ d ih =>
    intro fu j s hd hf' hj h5 h45 h50 h54
    obtain ⟨fu, rfl⟩ : ∃ f, fu = f + 1 := ⟨fu - 1, by omega⟩
    obtain ⟨l, hlj⟩ := get_lt (ks := ls) (j := j) (by omega)
    have hlf := hf l (List.mem_of_getElem? hlj)
    have i1 : 4 * nI k + nI j = nI (4 * k + j) := by rw [show (4 : Int32) = nI 4 from rfl, nI_mul, nI_add']
    have hun : l_Mo_agrees_2 (fu + 1) (nI k) (nI j) s = l_Mo_agrees_2 fu (nI k) (nI (j + 1)) (if l.f = p then mA s 54 (4 * k + j) 1 else s) := by
      conv => lhs; unfold l_Mo_agrees_2
      rw [ix_N (by omega) (by omega), Option.bind_some, h45, if_neg (nI_ngt (by omega) (by omega) (by omega)), i1, ix_N (by omega) (by omega), Option.bind_some, h50 j l hlj, h5, nI_add1]
      by_cases c : l.f = p
      · rw [if_neg (fun q => q (by rw [c])), if_pos c, Option.bind_some]; rfl
      · rw [if_pos (fun q => c (nI_inj (by omega) (by omega) q)), if_neg c, Option.bind_some]
    rw [hun]
    have h54j := h54 j l hlj
    rw [if_neg (by omega)] at h54j
    have w : mX [] [] [54] [] s (if l.f = p then mA s 54 (4 * k + j) 1 else s) := by
      split
      · exact mX.rf.A (by decide)
      · exact mX.rf
    have e54 : ∀ q, (if l.f = p then mA s 54 (4 * k + j) 1 else s).2.2.1 54 q = if q = 4 * k + j then b2i ((ag ++ [p]).contains l.f) else s.2.2.1 54 q := fun q => by
      rw [con_app]
      by_cases c : l.f = p
      · rw [if_pos c, mA_at, decide_eq_true c, Bool.or_true]; rfl
      · rw [if_neg c, decide_eq_false c, Bool.or_false]
        by_cases c2 : q = 4 * k + j
        · rw [if_pos c2, c2]; exact h54j
        · rw [if_neg c2]
    obtain ⟨s', a1, a2, a3, a4⟩ := ih fu (j + 1) _ (by omega) (by omega) (by omega) ((congrFun (show _ = s.1 from by split <;> rfl) 5).trans h5) ((w.eA _ (by decide) _).trans h45) (fun t l' ht => (w.eA _ (by decide) _).trans (h50 t l' ht)) (fun t l' ht => by
      rw [e54]
      by_cases c : t = j
      · subst c
        rw [hlj] at ht; cases ht
        rw [if_pos rfl, if_pos (by omega)]
      · rw [if_neg (by omega), h54 t l' ht]
        by_cases c2 : t < j
        · rw [if_pos c2, if_pos (by omega)]
        · rw [if_neg c2, if_neg (by omega)])
    refine ⟨s', a1, a2, fun q hq => ?_, w.tr a4⟩
    rw [a3 q hq, e54, if_neg (hq j (by omega))]
/-- one agrees -/
theorem d_agrees {n : Nat} {s : mS} {z : Z} (hQ : MQu s z) (hO : okZ n z) {k : Nat} {i : Ins} (hk : z.ins[k]? = some i) {p : Nat} (hp : p < 256) (h5 : s.1 5 = nI p) (hpl : ∃ l ∈ i.legs, l.f = p) (hpa : p ∉ i.ag) : ∃ s', d_Mo_agrees (nI k) s = some s' ∧ MQu s' (if (i.cnf p).wt then z.wIT (repL (mkIns i.who i.nm i.pr (z.turns + 1) i.legs (i.ag ++ [p])) z.ins) (z.turns + 1) else z.wIT (repL (i.cnf p) z.ins) z.turns) ∧ mX [] [45] [48, 54] [47] s s' := by
  have hl := hO.ins
  have hm := hO.mem
  have hkl := get_lt' hk
  have hI := hQ.ins k i hk
  have hi := List.mem_of_getElem? hk
  have hki := hO.oki i hi
  have hlg : ∀ i ∈ z.ins, i.legs.length ≤ 4 := fun i hi => (hO.oki i hi).len.2
  have hwi : i.wt = false := by
    cases c : i.wt with
    | false => rfl
    | true =>
      exfalso
      obtain ⟨l, hl1, hl2⟩ := hpl
      have := List.all_eq_true.mp c l hl1
      rw [hl2] at this
      exact hpa (by simpa using this)
  obtain ⟨s1, a1, a2, a3, a4⟩ := d_agrees_loop (s := s) (k := k) (p := p) (ls := i.legs) (ag := i.ag) (by omega) (hlg i hi) hp (fun l hl => by have := (hki.lg l hl).f; omega) _ 100000 0 s rfl (by have := hlg i hi; omega) (by omega) h5 hI.len (fun t l ht => (hI.lg t l ht).1) (fun t l ht => by rw [if_neg (by omega)]; exact (hI.lg t l ht).2.2.2.2)
  have hT : s1.2.1 45 = lI z.turns := (congrFun (show s1.2.1 = s.2.1 from funext fun x => a4.2.1 x (by simp)) 45).trans hQ.turns
  have hq := d_queue (s := s1) (k := k) (i := i.cnf p) (by omega) (hlg i hi) ((a4.eA _ (by decide) _).trans hI.len) a2 (T := z.turns) hT
  have hun : d_Mo_agrees (nI k) s = some (if (i.cnf p).wt then mB (mL (mA s1 48 k 1) 45 (lI (z.turns + 1 : Nat))) 47 k (lI (z.turns + 1 : Nat)) else s1) := by
    unfold d_Mo_agrees
    have : l_Mo_agrees_2 100000 (nI k) 0 s = some s1 := a1
    rw [this, Option.bind_some, hq, Option.bind_some]
  have w1 : mX [] [45] [48, 54] [47] s s1 := a4.mono (by simp) (by simp) (by simp) (by simp)
  have m1 : ∀ t, t ≠ k → ME s s1 t := fun t ht => by
    refine ⟨fun a ha => a4.eA a (fun c => ?_) t, fun a _ => a4.eB a (by simp) t, fun a ha j hj => ?_, fun j _ => a4.eB _ (by simp) _⟩
    · have e : a = 54 := by simpa using c
      rw [e] at ha; revert ha; decide
    · by_cases c : a = 54
      · rw [c]; exact a3 _ (fun t' ht' => by omega)
      · exact a4.eA a (by simpa using c) _
  rw [hun]
  cases hwt : (i.cnf p).wt with
  | true =>
    rw [if_pos rfl, if_pos rfl]
    obtain ⟨s2, hs2⟩ : ∃ s2, s2 = mB (mL (mA s1 48 k 1) 45 (lI (z.turns + 1 : Nat))) 47 k (lI (z.turns + 1 : Nat)) := ⟨_, rfl⟩
    have eA : ∀ a j, a ≠ 48 → s2.2.2.1 a j = s1.2.2.1 a j := fun a j h => by
      rw [hs2]; exact (show (mA s1 48 k 1).2.2.1 a j = _ from mA_ne h)
    have eP : ∀ j, s2.2.2.1 48 j = if j = k then 1 else s1.2.2.1 48 j := fun j => by
      rw [hs2]; exact (show (mA s1 48 k 1).2.2.1 48 j = _ from mA_at _ _ _ _ _)
    have eB : ∀ a j, a ≠ 47 → s2.2.2.2 a j = s1.2.2.2 a j := fun a j h => by rw [hs2]; exact mB_ne h
    have eT : ∀ j, s2.2.2.2 47 j = if j = k then lI (z.turns + 1 : Nat) else s1.2.2.2 47 j := fun j => by
      rw [hs2]; exact mB_at _ _ _ _ _
    rw [← hs2]
    refine ⟨s2, rfl, MQu.rep (s' := s2) (i' := mkIns i.who i.nm i.pr (z.turns + 1) i.legs (i.ag ++ [p])) hQ hO.unq hlg hk rfl rfl (by rw [hs2]; exact congrFun (show s1.1 = s.1 from funext fun x => a4.1 x (by simp)) 31) (fun t ht => ?_) ⟨(eA _ _ (by decide)).trans ((a4.eA _ (by decide) _).trans hI.who), (eA _ _ (by decide)).trans ((a4.eA _ (by decide) _).trans hI.pr), (eA _ _ (by decide)).trans ((a4.eA _ (by decide) _).trans hI.len), (eB _ _ (by decide)).trans ((a4.eB _ (by decide) _).trans hI.nm), ?_, ?_, fun j l hj => ?_⟩ ?_, by rw [hs2]; exact ((w1.A (by decide)).L (by decide)).B (by decide)⟩
    · obtain ⟨b1, b2, b3, b4⟩ := m1 t ht
      refine ⟨fun a ha => ?_, fun a ha => ?_, fun a ha j hj => ?_, fun j hj => (eB _ _ (by decide)).trans (b4 j hj)⟩
      · by_cases c : a = 48
        · rw [c, eP, if_neg ht]; exact b1 48 (by decide)
        · rw [eA _ _ c]; exact b1 a ha
      · by_cases c : a = 47
        · rw [c, eT, if_neg ht]; exact b2 47 (by decide)
        · rw [eB _ _ c]; exact b2 a ha
      · rw [eA _ _ (fun c => by rw [c] at ha; revert ha; decide)]; exact b3 a ha j hj
    · rw [eT, if_pos rfl]; rfl
    · rw [eP, if_pos rfl]
      have : (mkIns i.who i.nm i.pr (z.turns + 1) i.legs (i.ag ++ [p])).wt = true := hwt
      rw [this]; rfl
    · obtain ⟨c1, c2, c3, c4, c5⟩ := hI.lg j l hj
      exact ⟨(eA _ _ (by decide)).trans ((a4.eA _ (by decide) _).trans c1), (eA _ _ (by decide)).trans ((a4.eA _ (by decide) _).trans c2), (eA _ _ (by decide)).trans ((a4.eA _ (by decide) _).trans c3), (eB _ _ (by decide)).trans ((a4.eB _ (by decide) _).trans c4), (eA _ _ (by decide)).trans (a2 j l hj)⟩
    · rw [hs2]
      show va_up s1.2.1 45 _ 45 = _
      exact if_pos rfl
  | false =>
    rw [if_neg (by decide), if_neg (by decide)]
    refine ⟨s1, rfl, MQu.rep (s' := s1) (i' := i.cnf p) hQ hO.unq hlg hk rfl rfl (congrFun (show s1.1 = s.1 from funext fun x => a4.1 x (by simp)) 31) m1 ⟨(a4.eA _ (by decide) _).trans hI.who, (a4.eA _ (by decide) _).trans hI.pr, (a4.eA _ (by decide) _).trans hI.len, (a4.eB _ (by decide) _).trans hI.nm, (a4.eB _ (by decide) _).trans hI.tn, ?_, fun j l hj => ?_⟩ hT, w1⟩
    · rw [a4.eA _ (by decide), hI.wt, hwi, hwt]
    · obtain ⟨c1, c2, c3, c4, c5⟩ := hI.lg j l hj
      exact ⟨(a4.eA _ (by decide) _).trans c1, (a4.eA _ (by decide) _).trans c2, (a4.eA _ (by decide) _).trans c3, (a4.eB _ (by decide) _).trans c4, a2 j l hj⟩
