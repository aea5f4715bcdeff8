/-! The day's end, the next day, the snapshot, and what is counted. -/
/-! The reference: a day begins. -/
theorem d_day22 : ∀ (d fu k : Nat) (s : mS), 65536 - k = d → d < fu → k ≤ 65536 → (∀ j, j < k → s.2.2.2 37 j = 0) → ∃ s', l_Mo_newDay_22 fu (nI k) s = some s' ∧ (∀ j, j < 65536 → s'.2.2.2 37 j = 0) ∧ mX [] [] [] [37] s s' := by
  intro d
  induction d with
  | zero =>
    intro fu k s hd hf hk h
    obtain ⟨fu, rfl⟩ : ∃ f, fu = f + 1 := ⟨fu - 1, by omega⟩
    refine ⟨s, ?_, fun j hj => h j (by omega), mX.rf⟩
    unfold l_Mo_newDay_22
    rw [if_pos (show Int32.ofNat 65536 ≤ nI k from nI_le0 (a := 65536) (by omega) (by omega) (by omega))]
  | succ d ih =>
    intro fu k s hd hf hk h
    obtain ⟨fu, rfl⟩ : ∃ f, fu = f + 1 := ⟨fu - 1, by omega⟩
    have w : mX [] [] [] [37] s (mB s 37 k 0) := mX.rf.B (by decide)
    obtain ⟨s', a1, a2, a3⟩ := ih fu (k + 1) (mB s 37 k 0) (by omega) (by omega) (by omega) (fun j hj => by
      rw [mB_at]
      by_cases hjk : j = k
      · rw [if_pos hjk]
      · rw [if_neg hjk]; exact h j (by omega))
    refine ⟨s', ?_, a2, w.tr a3⟩
    unfold l_Mo_newDay_22
    rw [if_neg (show ¬ Int32.ofNat 65536 ≤ nI k from nI_ngt (a := 65536) (by omega) (by omega) (by omega)), ix_N (by omega) (by omega), Option.bind_some, nI_add1, a1]
theorem d_day43 (z : Z) : ∀ (d fu k : Nat) (s : mS), 16384 - k = d → d < fu → k ≤ 16384 → (∀ P, P < 16384 → s.2.2.2 31 P = lI (z.pos P)) → (∀ j, j < k → s.2.2.2 33 j = lI (z.pos j) ∧ s.2.2.2 34 j = 0 ∧ s.2.2.2 35 j = 0 ∧ s.2.2.1 36 j = 0) → ∃ s', l_Mo_newDay_43 fu (nI k) s = some s' ∧ (∀ j, j < 16384 → s'.2.2.2 33 j = lI (z.pos j) ∧ s'.2.2.2 34 j = 0 ∧ s'.2.2.2 35 j = 0 ∧ s'.2.2.1 36 j = 0) ∧ mX [] [] [36] [33, 34, 35] s s' := by
  intro d
  induction d with
  | zero =>
    intro fu k s hd hf hk hp h
    obtain ⟨fu, rfl⟩ : ∃ f, fu = f + 1 := ⟨fu - 1, by omega⟩
    refine ⟨s, ?_, fun j hj => h j (by omega), mX.rf⟩
    unfold l_Mo_newDay_43
    rw [if_pos (show (16384 : Int32) ≤ nI k from nI_le0 (a := 16384) (by omega) (by omega) (by omega))]
  | succ d ih =>
    intro fu k s hd hf hk hp h
    obtain ⟨fu, rfl⟩ : ∃ f, fu = f + 1 := ⟨fu - 1, by omega⟩
    have w : mX [] [] [36] [33, 34, 35] s (mA (mB (mB (mB s 33 k (s.2.2.2 31 k)) 34 k 0) 35 k 0) 36 k 0) := (((mX.rf.B (by decide)).B (by decide)).B (by decide)).A (by decide)
    obtain ⟨s', a1, a2, a3⟩ := ih fu (k + 1) _ (by omega) (by omega) (by omega) (fun P hP => by rw [w.eB 31 (by decide)]; exact hp P hP) (fun j hj => by
      have e33 : (mA (mB (mB (mB s 33 k (s.2.2.2 31 k)) 34 k 0) 35 k 0) 36 k 0).2.2.2 33 j = if j = k then s.2.2.2 31 k else s.2.2.2 33 j := by
        show (mB (mB (mB s 33 k (s.2.2.2 31 k)) 34 k 0) 35 k 0).2.2.2 33 j = _
        rw [mB_ne (by decide), mB_ne (by decide), mB_at]
      have e34 : (mA (mB (mB (mB s 33 k (s.2.2.2 31 k)) 34 k 0) 35 k 0) 36 k 0).2.2.2 34 j = if j = k then 0 else s.2.2.2 34 j := by
        show (mB (mB (mB s 33 k (s.2.2.2 31 k)) 34 k 0) 35 k 0).2.2.2 34 j = _
        rw [mB_ne (by decide), mB_at, mB_ne (by decide)]
      have e35 : (mA (mB (mB (mB s 33 k (s.2.2.2 31 k)) 34 k 0) 35 k 0) 36 k 0).2.2.2 35 j = if j = k then 0 else s.2.2.2 35 j := by
        show (mB (mB (mB s 33 k (s.2.2.2 31 k)) 34 k 0) 35 k 0).2.2.2 35 j = _
        rw [mB_at, mB_ne (by decide), mB_ne (by decide)]
      have e36 : (mA (mB (mB (mB s 33 k (s.2.2.2 31 k)) 34 k 0) 35 k 0) 36 k 0).2.2.1 36 j = if j = k then 0 else s.2.2.1 36 j := by
        rw [mA_at]; rfl
      rw [e33, e34, e35, e36]
      by_cases hjk : j = k
      · rw [if_pos hjk, if_pos hjk, if_pos hjk, if_pos hjk, hjk]; exact ⟨hp k (by omega), rfl, rfl, rfl⟩
      · rw [if_neg hjk, if_neg hjk, if_neg hjk, if_neg hjk]; exact h j (by omega))
    refine ⟨s', ?_, a2, w.tr a3⟩
    unfold l_Mo_newDay_43
    rw [if_neg (show ¬ (16384 : Int32) ≤ nI k from nI_ngt (a := 16384) (by omega) (by omega) (by omega)), ix_N (by omega) (by omega), Option.bind_some, nI_add1, a1]
theorem d_newDay {s : mS} {z : Z} (hM : MB s z) : ∃ s', d_Mo_newDay s = some s' ∧ MB s' z.newD ∧ s'.1 56 = 0 ∧ s'.1 55 = s.1 55 + 1 ∧ s'.1 30 = 0 ∧ mX [30, 55, 56] [] [36] [33, 34, 35, 37] s s' := by
  have w0 : mX [30, 55, 56] [] [36] [33, 34, 35, 37] s (mI (mI (mI s 56 0) 55 (s.1 55 + 1)) 30 0) := ((mX.rf.I (by decide)).I (by decide)).I (by decide)
  obtain ⟨s1, a1, a2, a3⟩ := d_day22 _ 100000 0 (mI (mI (mI s 56 0) 55 (s.1 55 + 1)) 30 0) rfl (by omega) (by omega) (fun j hj => by omega)
  have w1 := w0.tr (a3.mono (by simp) (by simp) (by simp) (by simp))
  obtain ⟨s2, b1, b2, b3⟩ := d_day43 z _ 100000 0 s1 rfl (by omega) (by omega) (fun P hP => by rw [w1.eB 31 (by decide)]; exact hM.pos P hP) (fun j hj => by omega)
  have w2 := w1.tr (b3.mono (by simp) (by simp) (by simp) (by simp))
  have e56 : (mI (mI (mI s 56 0) 55 (s.1 55 + 1)) 30 0).1 56 = 0 := by simp [mI_get]
  have e55 : (mI (mI (mI s 56 0) 55 (s.1 55 + 1)) 30 0).1 55 = s.1 55 + 1 := by simp [mI_get]
  have e30 : (mI (mI (mI s 56 0) 55 (s.1 55 + 1)) 30 0).1 30 = 0 := by simp [mI_get]
  have w12 := (a3.mono (ki' := []) (kl' := []) (ka' := [36]) (kb' := [33, 34, 35, 37]) (by simp) (by simp) (by simp) (by simp)).tr (b3.mono (by simp) (by simp) (by simp) (by simp))
  refine ⟨s2, ?_, ⟨(w2.1 _ (by decide)).trans hM.mem, fun k c hk => (w2.eB _ (by decide) _).trans (hM.cod k c hk), (w2.1 _ (by decide)).trans hM.asn, fun k x hk => ?_, (w2.1 _ (by decide)).trans hM.fir, fun P hP => (w2.eB _ (by decide) _).trans (hM.pos P hP), fun P hP => (w2.eB _ (by decide) _).trans (hM.pl P hP), fun P hP => (b2 P hP).1, fun P hP => (b2 P hP).2.1, fun P hP => (b2 P hP).2.2.1, fun P hP => (b2 P hP).2.2.2, fun k hk => (b3.eB _ (by decide) _).trans (a2 k hk), fun k hk => (w2.eB _ (by decide) _).trans (hM.lim k hk), (w2.1 _ (by decide)).trans hM.lims⟩, (w12.1 _ (by simp)).trans e56, (w12.1 _ (by simp)).trans e55, (w12.1 _ (by simp)).trans e30, w2⟩
  · unfold d_Mo_newDay
    have a1' : l_Mo_newDay_22 100000 0 (mI (mI (mI s 56 0) 55 (s.1 55 + 1)) 30 0) = some s1 := a1
    have b1' : l_Mo_newDay_43 100000 0 s1 = some s2 := b1
    rw [a1', Option.bind_some, b1']; rfl
  · obtain ⟨c1, c2, c3, c4⟩ := hM.asc k x hk
    exact ⟨(w2.eB _ (by decide) _).trans c1, (w2.eA _ (by decide) _).trans c2, (w2.eB _ (by decide) _).trans c3, (w2.eA _ (by decide) _).trans c4⟩
/-! The reference: all are sent back. -/
def backs (z : Z) (is : List Ins) : List Int32 := (is.map (evB z 66)).flatten
theorem d_sendBack {s : mS} {z : Z} (hcd0 : ∀ k c, z.mem[k]? = some c → s.2.2.2 26 k = lI (b256 c)) (hm : z.mem.length ≤ 256) (hcod : ∀ c ∈ z.mem, c.length = 4 ∧ is36 c) {k : Nat} {i : Ins} (hI : MI s k i) (hok : okI z i) (hk : k < 250) {bs : List Int32} (hA : AN s bs) (hl : bs.length + 14 < 32768) : ∃ s', d_Mo_sendBack (nI k) s = some s' ∧ AN s' (bs ++ evB z 66 i) ∧ mX [7] [] [25] [] s s' := by
  unfold d_Mo_sendBack
  exact d_event hcd0 hm hcod hI hok hk (c := 66) (by omega) hA hl (fun _ q => some q) (fun o => ∃ s', o = some s' ∧ AN s' (bs ++ evB z 66 i) ∧ mX [7] [] [25] [] s s') (fun s' a b => ⟨s', rfl, a, b⟩)
theorem d_end6 {n : Nat} {z : Z} (hO : okQ n z) (hm : z.mem.length ≤ 256) (hcod : ∀ c ∈ z.mem, c.length = 4 ∧ is36 c) {o : List Nat} (hol : o.length ≤ 250) (hob : ∀ k ∈ o, k < z.ins.length) : ∀ (d fu j : Nat) (s : mS) (bs : List Int32), MB s z → MQu s z → OS s o → AN s bs → bs.length + 14 * d + 14 < 32768 → o.length - j = d → d < fu → j ≤ o.length → ∃ s', l_Mo_endDay_6 fu (nI j) s = some s' ∧ AN s' (bs ++ backs z ((o.drop j).map z.at)) ∧ mX [7] [] [25] [] s s' := by
  have hz := hO.len
  intro d
  induction d with
  | zero =>
    intro fu j s bs hB hQ hS hA hl hd hf hj
    obtain ⟨fu, rfl⟩ : ∃ f, fu = f + 1 := ⟨fu - 1, by omega⟩
    refine ⟨s, ?_, ?_, mX.rf⟩
    · unfold l_Mo_endDay_6
      rw [hS.1, if_pos (nI_le0 (by omega) (by omega) (by omega))]
    · rw [List.drop_of_length_le (by omega)]
      show AN s (bs ++ [])
      rw [List.append_nil]; exact hA
  | succ d ih =>
    intro fu j s bs hB hQ hS hA hl hd hf hj
    obtain ⟨fu, rfl⟩ : ∃ f, fu = f + 1 := ⟨fu - 1, by omega⟩
    obtain ⟨k, hk⟩ := get_lt (ks := o) (j := j) (by omega)
    have hkz := hob k (List.mem_of_getElem? hk)
    have hok := hO.oki _ (at_mem hkz)
    obtain ⟨s1, a1, a2, a3⟩ := d_sendBack hB.cod hm hcod (hQ.ins k _ (at_some hkz)) hok (by omega) hA (by omega)
    have hel := evB_len hcod hok 66
    obtain ⟨s', b1, b2, b3⟩ := ih fu (j + 1) s1 _ (hB.x a3 (by decide) (by decide) (by simp)) (hQ.x a3 (by decide) (by simp) (by decide) (by simp)) (hS.x a3 (by decide) (by decide)) a2 (by rw [List.length_append]; omega) (by omega) (by omega) (by omega)
    refine ⟨s', ?_, ?_, a3.tr b3⟩
    · unfold l_Mo_endDay_6
      rw [hS.1, if_neg (nI_ngt (by omega) (by omega) (by omega)), ix_N (by omega) (by omega), Option.bind_some, hS.2 j k hk, a1, Option.bind_some, nI_add1, b1]
    · rw [drop_cons hk]
      rw [List.append_assoc] at b2
      exact b2
theorem d_end32 {n : Nat} {z : Z} (hO : okQ n z) (hm : z.mem.length ≤ 256) (hcod : ∀ c ∈ z.mem, c.length = 4 ∧ is36 c) : ∀ (d fu j : Nat) (s : mS) (bs : List Int32), MB s z → MQu s z → AN s bs → bs.length + 14 * d + 14 < 32768 → z.ins.length - j = d → d < fu → j ≤ z.ins.length → ∃ s', l_Mo_endDay_32 fu (nI j) s = some s' ∧ AN s' (bs ++ backs z ((z.ins.drop j).filter fun i => !i.wt)) ∧ mX [7] [] [25] [] s s' := by
  have hz := hO.len
  intro d
  induction d with
  | zero =>
    intro fu j s bs hB hQ hA hl hd hf hj
    obtain ⟨fu, rfl⟩ : ∃ f, fu = f + 1 := ⟨fu - 1, by omega⟩
    refine ⟨s, ?_, ?_, mX.rf⟩
    · unfold l_Mo_endDay_32
      rw [hQ.many, if_pos (nI_le0 (by omega) (by omega) (by omega))]
    · rw [List.drop_of_length_le (by omega)]
      show AN s (bs ++ [])
      rw [List.append_nil]; exact hA
  | succ d ih =>
    intro fu j s bs hB hQ hA hl hd hf hj
    obtain ⟨fu, rfl⟩ : ∃ f, fu = f + 1 := ⟨fu - 1, by omega⟩
    have hjz : j < z.ins.length := by omega
    have hji := at_some hjz
    have hok := hO.oki _ (at_mem hjz)
    have hI := hQ.ins j _ hji
    rw [drop_cons hji]
    cases hw : (z.at j).wt with
    | true =>
      obtain ⟨s', b1, b2, b3⟩ := ih fu (j + 1) s bs hB hQ hA (by omega) (by omega) (by omega) (by omega)
      refine ⟨s', ?_, ?_, b3⟩
      · unfold l_Mo_endDay_32
        rw [hQ.many, if_neg (nI_ngt (by omega) (by omega) (by omega)), ix_N (by omega) (by omega), Option.bind_some, hI.wt, hw, if_pos (by decide), Option.bind_some, nI_add1, b1]
      · rw [List.filter_cons_of_neg (by rw [hw]; decide)]; exact b2
    | false =>
      obtain ⟨s1, a1, a2, a3⟩ := d_sendBack hB.cod hm hcod hI hok (by omega) hA (by omega)
      have hel := evB_len hcod hok 66
      obtain ⟨s', b1, b2, b3⟩ := ih fu (j + 1) s1 _ (hB.x a3 (by decide) (by decide) (by simp)) (hQ.x a3 (by decide) (by simp) (by decide) (by simp)) a2 (by rw [List.length_append]; omega) (by omega) (by omega) (by omega)
      refine ⟨s', ?_, ?_, a3.tr b3⟩
      · unfold l_Mo_endDay_32
        rw [hQ.many, if_neg (nI_ngt (by omega) (by omega) (by omega)), ix_N (by omega) (by omega), Option.bind_some, hI.wt, hw, if_neg (by decide), a1, Option.bind_some, Option.bind_some, nI_add1, b1]
      · rw [List.filter_cons_of_pos (by rw [hw]; rfl)]
        rw [List.append_assoc] at b2
        exact b2
theorem backs_app (z : Z) (a b : List Ins) : backs z (a ++ b) = backs z a ++ backs z b := by
  unfold backs
  rw [List.map_append, List.flatten_append]
theorem backs_len {z : Z} (hcod : ∀ c ∈ z.mem, c.length = 4 ∧ is36 c) : ∀ {es : List Ins}, (∀ i ∈ es, okI z i) → (backs z es).length = 14 * es.length := by
  intro es
  induction es with
  | nil => intro _; rfl
  | cons i es ih =>
    intro h
    show (evB z 66 i ++ backs z es).length = _
    rw [List.length_append, evB_len hcod (h i List.mem_cons_self), ih fun j hj => h j (List.mem_cons_of_mem _ hj), List.length_cons]
    omega
theorem d_endDay {n : Nat} (hn : n ≤ 512) {s : mS} {z : Z} {bs : List Int32} {q : List Ins} (hR : RS s z bs) (hO : okZ n z) (hq : z.isq q) (hl : bs.length + 14 * z.ins.length + 14 * z.ins.length + 28 < 32768) : ∃ s', d_Mo_endDay s = some s' ∧ RS s' (z.wIns []) (bs ++ backs z (q ++ z.ins.filter fun i => !i.wt)) ∧ mX [7, 31, 32] [] [25, 55] [] s s' := by
  have hm := hO.mem
  obtain ⟨o, s1, a1, a2, a3, a4⟩ := d_sort hR.Q hO.q hn
  have hoq : o.map z.at = q := isq.un a3.q hq
  have hol := a3.len
  have hB1 := hR.B.x a4 (by decide) (by decide) (by simp)
  have hQ1 := hR.Q.x a4 (by decide) (by simp) (by decide) (by simp)
  have hzl := hO.ins
  obtain ⟨s2, b1, b2, b3⟩ := d_end6 hO.q hm.2 hO.cod (by omega) (fun k hk => at_lt a3 hk) _ 100000 0 s1 bs hB1 hQ1 a2 (hR.A.x a4 (by decide) (by decide)) (by omega) rfl (by omega) (by omega)
  rw [List.drop_zero, hoq] at b2
  have hB2 := hB1.x b3 (by decide) (by decide) (by simp)
  have hQ2 := hQ1.x b3 (by decide) (by simp) (by decide) (by simp)
  have hbl : (backs z q).length = 14 * q.length := backs_len hO.cod fun i hi => hO.oki i ((hq.2 i).mp hi).1
  have hql : q.length ≤ z.ins.length := by rw [← hoq, List.length_map]; exact hol
  obtain ⟨s3, c1, c2, c3⟩ := d_end32 hO.q hm.2 hO.cod _ 100000 0 s2 _ hB2 hQ2 b2 (by rw [List.length_append]; omega) rfl (by omega) (by omega)
  rw [List.drop_zero, List.append_assoc, ← backs_app] at c2
  have W : mX [7, 31, 32] [] [25, 55] [] s s3 := ((a4.mono (by decide) (by simp) (by decide) (by simp)).tr (b3.mono (by decide) (by simp) (by decide) (by simp))).tr (c3.mono (by decide) (by simp) (by decide) (by simp))
  have w3 : mX [31] [] [] [] s3 (mI s3 31 0) := mX.rf.I (by decide)
  have W' := W.tr (w3.mono (ki' := [7, 31, 32]) (kl' := []) (ka' := [25, 55]) (kb' := []) (by decide) (by simp) (by simp) (by simp))
  refine ⟨mI s3 31 0, ?_, ⟨?_, ⟨?_, fun k i hk => (by cases hk), ?_⟩, hR.m0.x W' (by decide) (by decide) (by simp), c2.x w3 (by decide) (by simp)⟩, W'⟩
  · unfold d_Mo_endDay
    have b1' : l_Mo_endDay_6 100000 0 s1 = some s2 := b1
    have c1' : l_Mo_endDay_32 100000 0 s2 = some s3 := c1
    rw [a1, Option.bind_some, b1', Option.bind_some, c1']; rfl
  · exact (hR.B.x W' (by decide) (by decide) (by simp)).eqv rfl rfl rfl rfl (fun _ _ => rfl) (fun _ _ => rfl) (fun _ _ => rfl) (fun _ _ => rfl) (fun _ _ => rfl) (fun _ _ => rfl) (fun _ _ => rfl) (fun _ _ => rfl)
  · simp [mI_get]; rfl
  · exact (W'.2.1 _ (by simp)).trans hR.Q.turns
