/-! Rows for walking a method: the cells by facts about them. -/
section AR
variable {P : am_P} {sc : am_Sc} {F L mc ms j : Nat} {Q : Option Value → am_H → Prop} {pc pc' : Nat} {lo : am_Lo} {st : List Value} {h : am_H} {k n : Nat}
theorem am_f_hp {i : am_I} {y : Nat × List Value × am_H × Nat × Nat} (hi : P.1 j pc = some i) (h1 : am_p1 i.1 pc lo st = none) (h2 : am_p2 i.1 st = none) (h3 : am_p3 i.1 i.2.2.1 pc st = none) (h4 : am_hp sc F L i.1 i.2.2.1 i.2.2.2.1 i.2.2.2.2 pc st h k n = some y) : am_f P sc F L j (pc, lo, st, h, k, n) = some (y.1, lo, y.2.1, y.2.2) := by
  unfold am_f
  rw [hi]
  show (match am_p1 i.1 pc lo st with | some y => _ | none => _) = _
  rw [h1]
  show (match am_p2 i.1 st with | some y => _ | none => _) = _
  rw [h2]
  show (match am_p3 i.1 i.2.2.1 pc st with | some y => _ | none => _) = _
  rw [h3]
  show (match am_hp sc F L i.1 i.2.2.1 i.2.2.2.1 i.2.2.2.2 pc st h k n with | some y => _ | none => _) = _
  rw [h4]
theorem am_ob_of {a b : Nat} {fs : List Value} (hc : h[a]? = some (.inr (b, fs))) : am_ob h a b = some fs := by
  unfold am_ob; rw [hc]; exact if_pos rfl
/-- getfield -/
theorem ar_get (ok : am_ok P j) {x len a b c ad : Nat} {fs : List Value} {v : Value} (hi : P.1 j pc = some (.getfield x, len, a, b, c)) (hc : h[ad]? = some (.inr (b, fs))) (hv : fs[c]? = some v) (hp : pc + 3 = pc') (hk : k ≤ mc) (hn : n ≤ ms) (kk : am_S P sc F L mc ms j (pc', lo, v :: st, h, k, n) Q) : am_S P sc F L mc ms j (pc, lo, .ref ad :: st, h, k, n) Q := by
  subst hp
  refine am_step ok (am_f_hp hi rfl rfl rfl (y := (pc + 3, v :: st, h, k, n)) ?_) hk hn kk
  show (am_ob h ad b).bind _ = _
  rw [am_ob_of hc]
  show (fs[c]?).bind _ = _
  rw [hv]; rfl
/-- putfield -/
theorem ar_put (ok : am_ok P j) {x len a b c ad : Nat} {fs fs' : List Value} {v : Value} (hi : P.1 j pc = some (.putfield x, len, a, b, c)) (hc : h[ad]? = some (.inr (b, fs))) (hl : c < fs.length) (hv : am_pk (am_ft b c) v = true) (hs : fs.set c v = fs') (hp : pc + 3 = pc') (hk : k ≤ mc) (hn : n ≤ ms) (kk : ∀ h' : am_H, h'[ad]? = some (.inr (b, fs')) → (∀ q, q ≠ ad → h'[q]? = h[q]?) → h'.length = h.length → am_S P sc F L mc ms j (pc', lo, st, h', k, n) Q) : am_S P sc F L mc ms j (pc, lo, v :: .ref ad :: st, h, k, n) Q := by
  subst hp; subst hs
  have hlt : ad < h.length := (List.getElem?_eq_some_iff.mp hc).1
  refine am_step ok (am_f_hp hi rfl rfl rfl (y := (pc + 3, st, h.set ad (.inr (b, fs.set c v)), k, n)) ?_) hk hn (kk _ ?_ ?_ ?_)
  · show (am_ob h ad b).bind _ = _
    rw [am_ob_of hc]
    exact if_pos ⟨hl, hv⟩
  · exact List.getElem?_set_self hlt
  · intro q hq; exact List.getElem?_set_ne (fun z => hq z.symm)
  · exact List.length_set
/-- iaload, of the new cells -/
theorem ar_iald (ok : am_ok P j) {len a b c ad N jx : Nat} {f : Nat → Int32} {i v : Int32} (hi : P.1 j pc = some (.iaload, len, a, b, c)) (hM : ad ≠ am_M) (hc : h[ad]? = some (.inl (0, N, .inl f))) (hx : am_ix i N = some jx) (hv : f jx = v) (hp : pc + 1 = pc') (hk : k ≤ mc) (hn : n ≤ ms) (kk : am_S P sc F L mc ms j (pc', lo, .int v :: st, h, k, n) Q) : am_S P sc F L mc ms j (pc, lo, .int i :: .ref ad :: st, h, k, n) Q := by
  subst hp; subst hv
  refine am_step ok (am_f_hp hi rfl rfl rfl (y := (pc + 1, .int (f jx) :: st, h, k, n)) ?_) hk hn kk
  show (if ad = am_M then _ else (am_ai h ad).bind _) = _
  rw [if_neg hM, show am_ai h ad = some (0, N, f) by unfold am_ai; rw [hc]]
  show (am_ix i N).bind _ = _
  rw [hx]; rfl
theorem ar_lald (ok : am_ok P j) {len a b c ad N jx : Nat} {f : Nat → Int64} {i : Int32} {v : Int64} (hi : P.1 j pc = some (.laload, len, a, b, c)) (hc : h[ad]? = some (.inl (1, N, .inr (.inl f)))) (hx : am_ix i N = some jx) (hv : f jx = v) (hp : pc + 1 = pc') (hk : k ≤ mc) (hn : n ≤ ms) (kk : am_S P sc F L mc ms j (pc', lo, .long v :: st, h, k, n) Q) : am_S P sc F L mc ms j (pc, lo, .int i :: .ref ad :: st, h, k, n) Q := by
  subst hp; subst hv
  refine am_step ok (am_f_hp hi rfl rfl rfl (y := (pc + 1, .long (f jx) :: st, h, k, n)) ?_) hk hn kk
  show (am_al h ad).bind _ = _
  rw [show am_al h ad = some (1, N, f) by unfold am_al; rw [hc]]
  show (am_ix i N).bind _ = _
  rw [hx]; rfl
theorem ar_aald (ok : am_ok P j) {len a b c ad t N jx : Nat} {f : Nat → Option Nat} {i : Int32} {v : Option Nat} (hi : P.1 j pc = some (.aaload, len, a, b, c)) (hc : h[ad]? = some (.inl (t, N, .inr (.inr (.inr (.inr f)))))) (ht : 4 ≤ t ∧ t < 8) (hx : am_ix i N = some jx) (hv : f jx = v) (hp : pc + 1 = pc') (hk : k ≤ mc) (hn : n ≤ ms) (kk : am_S P sc F L mc ms j (pc', lo, va_rf v :: st, h, k, n) Q) : am_S P sc F L mc ms j (pc, lo, .int i :: .ref ad :: st, h, k, n) Q := by
  subst hp; subst hv
  refine am_step ok (am_f_hp hi rfl rfl rfl (y := (pc + 1, va_rf (f jx) :: st, h, k, n)) ?_) hk hn kk
  show (am_aq h ad).bind _ = _
  rw [show am_aq h ad = some (t, N, f) by unfold am_aq; rw [hc]]
  show (if 4 ≤ t ∧ t < 8 then (am_ix i N).bind _ else _) = _
  rw [if_pos ht, hx]; rfl
theorem ar_iast (ok : am_ok P j) {len a b c ad N jx : Nat} {f : Nat → Int32} {i v : Int32} (hi : P.1 j pc = some (.iastore, len, a, b, c)) (hc : h[ad]? = some (.inl (0, N, .inl f))) (hx : am_ix i N = some jx) (hp : pc + 1 = pc') (hk : k ≤ mc) (hn : n ≤ ms) (kk : ∀ h' : am_H, h'[ad]? = some (.inl (0, N, .inl (upd f jx v))) → (∀ q, q ≠ ad → h'[q]? = h[q]?) → h'.length = h.length → am_S P sc F L mc ms j (pc', lo, st, h', k, n) Q) : am_S P sc F L mc ms j (pc, lo, .int v :: .int i :: .ref ad :: st, h, k, n) Q := by
  subst hp
  have hlt : ad < h.length := (List.getElem?_eq_some_iff.mp hc).1
  refine am_step ok (am_f_hp hi rfl rfl rfl (y := (pc + 1, st, h.set ad (.inl (0, N, .inl (upd f jx v))), k, n)) ?_) hk hn (kk _ ?_ ?_ ?_)
  · show (am_ai h ad).bind _ = _
    rw [show am_ai h ad = some (0, N, f) by unfold am_ai; rw [hc]]
    show (am_ix i N).bind _ = _
    rw [hx]; rfl
  · exact List.getElem?_set_self hlt
  · intro q hq; exact List.getElem?_set_ne (fun z => hq z.symm)
  · exact List.length_set
theorem ar_bast (ok : am_ok P j) {len a b c ad t N jx : Nat} {f : Nat → Int32} {i v : Int32} (hi : P.1 j pc = some (.bastore, len, a, b, c)) (hc : h[ad]? = some (.inl (t, N, .inl f))) (ht : t = 2 ∨ t = 3) (hx : am_ix i N = some jx) (hp : pc + 1 = pc') (hk : k ≤ mc) (hn : n ≤ ms) (kk : ∀ h' : am_H, h'[ad]? = some (.inl (t, N, .inl (upd f jx (am_bn t v)))) → (∀ q, q ≠ ad → h'[q]? = h[q]?) → h'.length = h.length → am_S P sc F L mc ms j (pc', lo, st, h', k, n) Q) : am_S P sc F L mc ms j (pc, lo, .int v :: .int i :: .ref ad :: st, h, k, n) Q := by
  subst hp
  have hlt : ad < h.length := (List.getElem?_eq_some_iff.mp hc).1
  refine am_step ok (am_f_hp hi rfl rfl rfl (y := (pc + 1, st, h.set ad (.inl (t, N, .inl (upd f jx (am_bn t v)))), k, n)) ?_) hk hn (kk _ ?_ ?_ ?_)
  · show (am_ai h ad).bind _ = _
    rw [show am_ai h ad = some (t, N, f) by unfold am_ai; rw [hc]]
    show (if t = 2 ∨ t = 3 then (am_ix i N).bind _ else _) = _
    rw [if_pos ht, hx]; rfl
  · exact List.getElem?_set_self hlt
  · intro q hq; exact List.getElem?_set_ne (fun z => hq z.symm)
  · exact List.length_set
theorem ar_last (ok : am_ok P j) {len a b c ad N jx : Nat} {f : Nat → Int64} {i : Int32} {v : Int64} (hi : P.1 j pc = some (.lastore, len, a, b, c)) (hc : h[ad]? = some (.inl (1, N, .inr (.inl f)))) (hx : am_ix i N = some jx) (hp : pc + 1 = pc') (hk : k ≤ mc) (hn : n ≤ ms) (kk : ∀ h' : am_H, h'[ad]? = some (.inl (1, N, .inr (.inl (vp_updL f jx v)))) → (∀ q, q ≠ ad → h'[q]? = h[q]?) → h'.length = h.length → am_S P sc F L mc ms j (pc', lo, st, h', k, n) Q) : am_S P sc F L mc ms j (pc, lo, .long v :: .int i :: .ref ad :: st, h, k, n) Q := by
  subst hp
  have hlt : ad < h.length := (List.getElem?_eq_some_iff.mp hc).1
  refine am_step ok (am_f_hp hi rfl rfl rfl (y := (pc + 1, st, h.set ad (.inl (1, N, .inr (.inl (vp_updL f jx v)))), k, n)) ?_) hk hn (kk _ ?_ ?_ ?_)
  · show (am_al h ad).bind _ = _
    rw [show am_al h ad = some (1, N, f) by unfold am_al; rw [hc]]
    show (am_ix i N).bind _ = _
    rw [hx]; rfl
  · exact List.getElem?_set_self hlt
  · intro q hq; exact List.getElem?_set_ne (fun z => hq z.symm)
  · exact List.length_set
/-- invokevirtual -/
theorem ar_cv (ok : am_ok P j) {x len a j' c ad F' L' mc' ms' : Nat} (okh : am_hok P j') {d' : am_Hd} {fs As rest st : List Value} {Q1 : Option Value → am_H → Prop} (hi : P.1 j pc = some (.invokevirtual x, len, a, j', c)) (hd' : P.2 j' = some d') (hst : st = As.reverse ++ .ref ad :: rest) (hlen : As.length = d'.2.2.2.2.2.1) (hob : h[ad]? = some (.inr (d'.2.2.2.2.2.2.1, fs))) (hcat : am_cat rest ≤ 8) (hM : am_Me P sc F' L' mc' ms' j' (.ref ad :: As) h Q1)
    (hF : F' + 1 ≤ F) (hL : 8 + (d'.2.2.1 + 11) + L' ≤ L) (hmc : k + mc' ≤ mc) (hms : n + ms' ≤ ms) (hp : pc + 3 = pc') (kk : ∀ (r : Option Value) (h' : am_H), Q1 r h' → am_S P sc F L mc ms j (pc', lo, r.toList ++ rest, h', k + mc', n + ms') Q) : am_S P sc F L mc ms j (pc, lo, st, h, k, n) Q := by
  subst hp
  have hlr : As.reverse.length = d'.2.2.2.2.2.1 := by rw [List.length_reverse]; exact hlen
  have htk : st.take d'.2.2.2.2.2.1 = As.reverse := by rw [hst, ← hlr]; exact List.take_left
  have hdr : st.drop d'.2.2.2.2.2.1 = .ref ad :: rest := by rw [hst, ← hlr]; exact List.drop_left
  refine am_call ok okh hd' (args' := .ref ad :: As) (rest := rest) ?_ hM hF hL hmc hms kk
  unfold am_cf
  dsimp only
  rw [hi]
  show (P.2 j').bind _ = _
  rw [hd']
  show (if (st.take d'.2.2.2.2.2.1).length = _ then (am_popR (st.drop d'.2.2.2.2.2.1)).bind _ else _) = _
  rw [htk, hdr, if_pos hlr]
  show (if am_oc h ad = some d'.2.2.2.2.2.2.1 ∧ am_cat rest ≤ 8 then _ else _) = _
  rw [if_pos ⟨by unfold am_oc; rw [hob], hcat⟩, List.reverse_reverse]
end AR
theorem am_sub {M N : List Nat} {q : Nat} (h : ∀ x ∈ N, x ∈ M) (hq : q ∉ M) : q ∉ N := fun z => hq (h q z)
theorem am_lt_le {x y : Int32} (h : ¬ x < y) : y ≤ x := Int32.not_lt.mp h
theorem am_le_lt {x y : Int32} (h : ¬ x ≤ y) : y < x := Int32.not_le.mp h
