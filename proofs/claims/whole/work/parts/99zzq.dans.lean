/-! The reference answers: words. -/
theorem d_put3 {s : mS} {m x : Nat} (h7 : s.1 7 = nI m) (hm : m < 32768) (hx : x < 128) : ∃ s', d_Mo_put (nI x) s = some s' ∧ s'.1 7 = nI (m + 1) ∧ (∀ j, s'.2.2.1 25 j = if j = m then nI x else s.2.2.1 25 j) ∧ mX [7] [] [25] [] s s' := by
  refine ⟨mI (mA s 25 m (nI x)) 7 (nI (m + 1)), ?_, by simp [mI, va_up], fun j => mA_at s 25 m (nI x) j, mX.I (mX.A mX.rf (by decide)) (by decide)⟩
  unfold d_Mo_put
  have e : am_bn 2 (Int8.toInt32 (Int32.toInt8 (nI x))) = nI x := tb_nI hx
  rw [h7, if_pos (show ¬ nI m = (32768 : Int32) from fun q => by have := nI_inj (b := 32768) (by omega) (by omega) q; omega), ix_N hm (by omega), Option.bind_some, e, nI_add1]
def nz (x : Nat) : List Int32 := if x = 0 then [] else [nI x]
theorem d_putz {s : mS} {bs : List Int32} (hA : AN s bs) (hl : bs.length < 32768) {x : Nat} (hx : x < 128) : ∃ s', (if ((nI x) : Int32) ≤ 0 then (some s) else ((d_Mo_put (nI x) s).bind fun q54 => (some q54))) = some s' ∧ AN s' (bs ++ nz x) ∧ mX [7] [] [25] [] s s' := by
  unfold nz
  by_cases c : x = 0
  · rw [if_pos (show nI x ≤ (0 : Int32) from by rw [c]; decide), if_pos c, List.append_nil]
    exact ⟨s, rfl, hA, mX.rf⟩
  · rw [if_neg (show ¬ nI x ≤ (0 : Int32) from nI_ngt (b := 0) (by omega) (by omega) (by omega)), if_neg c]
    obtain ⟨s', h1, h2, h3⟩ := d_put' hA hl hx
    exact ⟨s', by rw [h1]; rfl, h2, h3⟩
theorem nz_len (x : Nat) : (nz x).length ≤ 1 := by
  unfold nz
  split <;> simp
theorem d_wd {s : mS} {bs : List Int32} (hA : AN s bs) (hl : bs.length + 5 < 32768) {a b c d e : Nat} (ha : a < 128) (hb : b < 128) (hc : c < 128) (hd : d < 128) (he : e < 128) : ∃ s', d_Mo_putWord (nI a) (nI b) (nI c) (nI d) (nI e) s = some s' ∧ AN s' (bs ++ [nI a] ++ [nI b] ++ nz c ++ nz d ++ nz e) ∧ mX [7] [] [25] [] s s' := by
  have n1 := nz_len c
  have n2 := nz_len d
  obtain ⟨s1, a1, a2, a3⟩ := d_put' hA (by omega) ha
  obtain ⟨s2, b1, b2, b3⟩ := d_put' a2 (by simp; omega) hb
  obtain ⟨s3, c1, c2, c3⟩ := d_putz b2 (by simp; omega) hc
  obtain ⟨s4, d1, d2, d3⟩ := d_putz c2 (by simp; omega) hd
  obtain ⟨s5, e1, e2, e3⟩ := d_putz d2 (by simp; omega) he
  refine ⟨s5, ?_, e2, a3.tr (b3.tr (c3.tr (d3.tr e3)))⟩
  unfold d_Mo_putWord
  rw [a1, Option.bind_some, b1, Option.bind_some, c1, Option.bind_some, d1, Option.bind_some]
  exact e1
theorem d_w4 {s : mS} {m a b c d : Nat} (h7 : s.1 7 = nI m) (hm : m + 4 < 32768) (ha : a < 128) (hb : b < 128) (hc : 0 < c ∧ c < 128) (hd : 0 < d ∧ d < 128) : ∃ s', d_Mo_putWord (nI a) (nI b) (nI c) (nI d) 0 s = some s' ∧ (∀ j, s'.2.2.1 25 j = if j = m + 3 then nI d else if j = m + 2 then nI c else if j = m + 1 then nI b else if j = m then nI a else s.2.2.1 25 j) ∧ mX [7] [] [25] [] s s' := by
  obtain ⟨s1, a1, a2, a3, a4⟩ := d_put3 h7 (by omega) ha
  obtain ⟨s2, b1, b2, b3, b4⟩ := d_put3 a2 (by omega) hb
  obtain ⟨s3, c1, c2, c3, c4⟩ := d_put3 b2 (by omega) hc.2
  obtain ⟨s4, d1, d2, d3, d4⟩ := d_put3 c2 (by omega) hd.2
  refine ⟨s4, ?_, fun j => by rw [d3, c3, b3, a3], a4.tr (b4.tr (c4.tr d4))⟩
  unfold d_Mo_putWord
  rw [a1, Option.bind_some, b1, Option.bind_some, if_neg (show ¬ nI c ≤ (0 : Int32) from nI_ngt (b := 0) (by omega) (by omega) hc.1), c1, Option.bind_some, Option.bind_some, if_neg (show ¬ nI d ≤ (0 : Int32) from nI_ngt (b := 0) (by omega) (by omega) hd.1), d1, Option.bind_some, Option.bind_some, if_pos (by decide)]
theorem AN.patch {s s' : mS} {r : List Int32} {a0 a1 a2 x0 x1 x2 x3 w0 w1 w2 w3 : Int32} (h : AN s ([a0, a1, a2, x0, x1, x2, x3] ++ r)) (h7 : s'.1 7 = s.1 7) (hj : ∀ j, s'.2.2.1 25 j = if j = 3 + 3 then w3 else if j = 3 + 2 then w2 else if j = 3 + 1 then w1 else if j = 3 then w0 else s.2.2.1 25 j) : AN s' ([a0, a1, a2, w0, w1, w2, w3] ++ r) := by
  refine ⟨by rw [h7, h.1]; simp, fun j b hb => ?_⟩
  rw [hj]
  match j, hb with
  | 0, hb => exact h.2 0 b hb
  | 1, hb => exact h.2 1 b hb
  | 2, hb => exact h.2 2 b hb
  | 3, hb => cases hb; rfl
  | 4, hb => cases hb; rfl
  | 5, hb => cases hb; rfl
  | 6, hb => cases hb; rfl
  | j + 7, hb =>
    rw [if_neg (by omega), if_neg (by omega), if_neg (by omega), if_neg (by omega)]
    exact h.2 (j + 7) b hb
theorem okw_some (z : Z) (es : List Ins) (w : Nat) (nm : List Nat) : okw z es (some (w, nm)) = if (es.any fun i => decide (i.who = w ∧ i.nm = nm)) then 3 else (match z.opn w nm with | some i => if i.wt then 4 else 5 | none => 5) := rfl
theorem d_ends {n : Nat} {s : mS} {z : Z} {r : List Int32} {w : Nat} {nm : List Nat} {es : List Ins} (hQ : MQu s z) (hO : okZ n z) (hA : AN s ([nI 79, nI 75, nI 32, nI 46, nI 46, nI 46, nI 46] ++ r)) (hw : w < 256) (hnm : nm.length = 8) (h36 : is36 nm) (h53 : s.1 53 = nI w) (h52 : s.2.1 52 = lI (b256 nm : Nat)) (h54 : s.1 54 = b2i (es.any fun i => decide (i.who = w ∧ i.nm = nm))) : ∃ s', ((d_Mo_ends (s.1 53) (s.2.1 52) (mI s 7 (nI 3))).bind fun q80 => (some (mI q80 7 (s.1 7)))) = some s' ∧ AN s' (txt (okw z es (some (w, nm))) ++ r) ∧ mX [7] [] [25] [] s s' := by
  obtain ⟨s1, hs1⟩ : ∃ s1, s1 = mI s 7 (nI 3) := ⟨_, rfl⟩
  have w1 : mX [7] [] [25] [] s s1 := by rw [hs1]; exact mX.I mX.rf (by decide)
  have h7 : s1.1 7 = nI 3 := by rw [hs1]; simp [mI, va_up]
  have a1 : s1.2.2.1 = s.2.2.1 := by rw [hs1]; rfl
  have Q1 : MQu s1 z := hQ.x5 w1 (by decide) (by decide) (by simp) (by simp)
  have dop := d_open Q1 hO hw hnm h36
  have fin : ∀ {a b c d : Nat} {v : Nat}, a < 128 → b < 128 → (0 < c ∧ c < 128) → (0 < d ∧ d < 128) → txt v = [nI 79, nI 75, nI 32, nI a, nI b, nI c, nI d] → okw z es (some (w, nm)) = v → d_Mo_ends (nI w) (lI (b256 nm : Nat)) s1 = ((d_Mo_putWord (nI a) (nI b) (nI c) (nI d) 0 s1).bind fun q => some q) → ∃ s', ((d_Mo_ends (s.1 53) (s.2.1 52) (mI s 7 (nI 3))).bind fun q80 => (some (mI q80 7 (s.1 7)))) = some s' ∧ AN s' (txt (okw z es (some (w, nm))) ++ r) ∧ mX [7] [] [25] [] s s' := fun {a b c d v} ha hb hc hd ht hv he => by
    obtain ⟨s2, e1, e2, e3⟩ := d_w4 h7 (by omega) ha hb hc hd
    refine ⟨mI s2 7 (s.1 7), ?_, ?_, w1.tr (e3.tr (mX.I mX.rf (by decide)))⟩
    · rw [h53, h52, ← hs1, he, e1]; rfl
    · rw [hv, ht]
      exact hA.patch (by simp [mI, va_up]) (fun j => by
        show s2.2.2.1 25 j = _
        rw [e2 j, a1])
  have e54 : s1.1 54 = b2i (es.any fun i => decide (i.who = w ∧ i.nm = nm)) := by rw [w1.1 54 (by decide)]; exact h54
  have hil := hO.ins
  cases ha : es.any fun i => decide (i.who = w ∧ i.nm = nm) with
  | true =>
    rw [ha] at e54
    refine fin (a := 68) (b := 79) (c := 78) (d := 69) (v := 3) (by omega) (by omega) (by omega) (by omega) rfl ?_ ?_
    · rw [okw_some, ha]; rfl
    · unfold d_Mo_ends
      rw [dop, Option.bind_some, e54, if_neg (by decide)]; rfl
  | false =>
    rw [ha] at e54
    cases ho : z.opk w nm with
    | none =>
      have hop := opk_none ho
      refine fin (a := 67) (b := 79) (c := 78) (d := 70) (v := 5) (by omega) (by omega) (by omega) (by omega) rfl ?_ ?_
      · rw [okw_some, ha]
        show (match z.opn w nm with | some i => if i.wt then 4 else 5 | none => 5) = 5
        rw [hop]
      · unfold d_Mo_ends
        rw [dop, Option.bind_some, e54, if_pos (by decide), ho, if_pos (show oI none < (0 : Int32) by decide)]; rfl
    | some j =>
      obtain ⟨i, i1, i2⟩ := opk_some ho
      have hj := get_lt' i1
      have e1 : oI (some j) = nI j := rfl
      have ew := (Q1.ins j i i1).wt
      have hw4 : okw z es (some (w, nm)) = if i.wt then 4 else 5 := by
        rw [okw_some, ha]
        show (match z.opn w nm with | some i => if i.wt then 4 else 5 | none => 5) = _
        rw [i2]
      cases hwt : i.wt with
      | true =>
        rw [hwt] at hw4 ew
        refine fin (a := 87) (b := 65) (c := 73) (d := 84) (v := 4) (by omega) (by omega) (by omega) (by omega) rfl hw4 ?_
        unfold d_Mo_ends
        rw [dop, Option.bind_some, e54, if_pos (by decide), ho, e1, if_neg (nI_neg1 (by omega)), ix_N (by omega) (by omega), Option.bind_some, ew, if_neg (by decide)]; rfl
      | false =>
        rw [hwt] at hw4 ew
        refine fin (a := 67) (b := 79) (c := 78) (d := 70) (v := 5) (by omega) (by omega) (by omega) (by omega) rfl hw4 ?_
        unfold d_Mo_ends
        rw [dop, Option.bind_some, e54, if_pos (by decide), ho, e1, if_neg (nI_neg1 (by omega)), ix_N (by omega) (by omega), Option.bind_some, ew, if_pos (by decide)]; rfl
