/-! The reference settles one. -/
theorem mB_at (s : mS) (a j : Nat) (v : Int64) (i : Nat) : (mB s a j v).2.2.2 a i = if i = j then v else s.2.2.2 a i := by rw [mB_get, if_pos rfl]
theorem mB_ne {s : mS} {a j : Nat} {v : Int64} {b i : Nat} (h : b ≠ a) : (mB s a j v).2.2.2 b i = s.2.2.2 b i := by rw [mB_get, if_neg h]
theorem mA_at (s : mS) (a j : Nat) (v : Int32) (i : Nat) : (mA s a j v).2.2.1 a i = if i = j then v else s.2.2.1 a i := by rw [mA_get, if_pos rfl]
theorem mA_ne {s : mS} {a j : Nat} {v : Int32} {b i : Nat} (h : b ≠ a) : (mA s a j v).2.2.1 b i = s.2.2.1 b i := by rw [mA_get, if_neg h]
theorem MB.eqv {s : mS} {z z' : Z} (h : MB s z) (h1 : z'.mem = z.mem) (h2 : z'.ast = z.ast) (h3 : z'.fc = z.fc) (h4 : z'.lims = z.lims) (hpos : ∀ P, P < 16384 → z'.pos P = z.pos P) (hpl : ∀ P, P < 16384 → z'.pl P = z.pl P) (hbeg : ∀ P, P < 16384 → z'.beg P = z.beg P) (hwnt : ∀ P, P < 16384 → z'.wnt P = z.wnt P) (hcam : ∀ P, P < 16384 → z'.cam P = z.cam P) (hmv : ∀ P, P < 16384 → z'.mv P = z.mv P) (hpaid : ∀ P, P < 65536 → z'.paid P = z.paid P) (hlim : ∀ P, P < 65536 → z'.lim P = z.lim P) : MB s z' :=
  ⟨by rw [h1]; exact h.mem, by rw [h1]; exact h.cod, by rw [h2]; exact h.asn, by rw [h2]; exact h.asc, by rw [h3]; exact h.fir, fun P q => by rw [hpos P q]; exact h.pos P q, fun P q => by rw [hpl P q]; exact h.pl P q, fun P q => by rw [hbeg P q]; exact h.beg P q, fun P q => by rw [hwnt P q]; exact h.wnt P q, fun P q => by rw [hcam P q]; exact h.cam P q, fun P q => by rw [hmv P q]; exact h.mv P q, fun P q => by rw [hpaid P q]; exact h.paid P q, fun P q => by rw [hlim P q]; exact h.lim P q, by rw [h4]; exact h.lims⟩
/-- the same books but for amounts that moved -/
theorem MB.amt {s s' : mS} {z z' : Z} (h : MB s z) (x : mX [] [] [36] [31, 34, 35, 37] s s') (h1 : z'.mem = z.mem) (h2 : z'.ast = z.ast) (h3 : z'.fc = z.fc) (h4 : z'.lims = z.lims) (hpl : z'.pl = z.pl) (hbeg : z'.beg = z.beg) (hlim : z'.lim = z.lim) (hpos : ∀ P, P < 16384 → s'.2.2.2 31 P = lI (z'.pos P)) (hwnt : ∀ P, P < 16384 → s'.2.2.2 34 P = lI (z'.wnt P)) (hcam : ∀ P, P < 16384 → s'.2.2.2 35 P = lI (z'.cam P)) (hmv : ∀ P, P < 16384 → s'.2.2.1 36 P = nI (z'.mv P)) (hpaid : ∀ P, P < 65536 → s'.2.2.2 37 P = lI (z'.paid P)) : MB s' z' :=
  ⟨by rw [h1, x.1 10 (by decide)]; exact h.mem, fun k c q => by rw [h1] at q; rw [x.eB 26 (by decide)]; exact h.cod k c q, by rw [h2, x.1 15 (by decide)]; exact h.asn, fun k c q => by rw [h2] at q; rw [x.eB 27 (by decide), x.eA 28 (by decide), x.eB 29 (by decide), x.eA 30 (by decide)]; exact h.asc k c q, by rw [h3, x.1 16 (by decide)]; exact h.fir, hpos, fun P q => by rw [hpl, x.eB 32 (by decide)]; exact h.pl P q, fun P q => by rw [hbeg, x.eB 33 (by decide)]; exact h.beg P q, hwnt, hcam, hmv, hpaid, fun P q => by rw [hlim, x.eB 38 (by decide)]; exact h.lim P q, by rw [h4, x.1 25 (by decide)]; exact h.lims⟩
def Z.mv1 (z : Z) (P : Nat) (v : Int) : Z := (z.1, ((fun Q => if Q = P then z.pos Q + v else z.pos Q), (fun Q => if Q = P ∧ v < 0 then z.wnt Q - v else z.wnt Q), (fun Q => if Q = P ∧ 0 < v then z.cam Q + v else z.cam Q), (fun Q => if Q = P ∧ v ≠ 0 then z.mv Q + 1 else z.mv Q), z.paid), z.2.2)
theorem d_move {s : mS} {z : Z} (hB : MB s z) {P : Nat} (hP : P < 16384) {v : Int} (hv : inL v) : ∃ s', d_Mo_move (nI P) (lI v) s = some s' ∧ MB s' (z.mv1 P v) ∧ mX [] [] [36] [31, 34, 35, 37] s s' := by
  unfold d_Mo_move
  rw [ixI hP (by omega), Option.bind_some, lI_0, hB.pos P hP, hB.wnt P hP, hB.cam P hP, lI_add, lI_sub, lI_add]
  by_cases h : v < 0
  · rw [if_neg (fun q => by have := (cmp_ge0 hv (by omega)).mp q; omega), Option.bind_some, if_pos (fun q => by have := (cmp_eq0 hv (by omega)).mp q; omega), Option.bind_some]
    have x : mX [] [] [36] [31, 34, 35, 37] s (mA (mB (mB s 31 P (lI (z.pos P + v))) 34 P (lI (z.wnt P - v))) 36 P ((mB (mB s 31 P (lI (z.pos P + v))) 34 P (lI (z.wnt P - v))).2.2.1 36 P + 1)) := ((mX.rf.B (by decide)).B (by decide)).A (by decide)
    refine ⟨_, rfl, hB.amt x rfl rfl rfl rfl rfl rfl rfl (fun Q hQ => ?_) (fun Q hQ => ?_) (fun Q hQ => ?_) (fun Q hQ => ?_) (fun Q hQ => ?_), x⟩
    · show (mB (mB s 31 P (lI (z.pos P + v))) 34 P (lI (z.wnt P - v))).2.2.2 31 Q = lI (if Q = P then z.pos Q + v else z.pos Q)
      rw [mB_ne (by decide), mB_at]
      by_cases e : Q = P
      · rw [if_pos e, if_pos e, e]
      · rw [if_neg e, if_neg e]; exact hB.pos Q hQ
    · show (mB (mB s 31 P (lI (z.pos P + v))) 34 P (lI (z.wnt P - v))).2.2.2 34 Q = lI (if Q = P ∧ v < 0 then z.wnt Q - v else z.wnt Q)
      rw [mB_at, mB_ne (by decide)]
      by_cases e : Q = P
      · rw [if_pos e, if_pos ⟨e, h⟩, e]
      · rw [if_neg e, if_neg (fun w => e w.1)]; exact hB.wnt Q hQ
    · show (mB (mB s 31 P (lI (z.pos P + v))) 34 P (lI (z.wnt P - v))).2.2.2 35 Q = lI (if Q = P ∧ 0 < v then z.cam Q + v else z.cam Q)
      rw [mB_ne (by decide), mB_ne (by decide), if_neg (fun w => by omega)]; exact hB.cam Q hQ
    · show _ = nI (if Q = P ∧ v ≠ 0 then z.mv Q + 1 else z.mv Q)
      rw [mA_at]
      by_cases e : Q = P
      · rw [if_pos e, if_pos ⟨e, by omega⟩, e]
        show s.2.2.1 36 P + 1 = _
        rw [hB.mv P hP, nI_add1]
      · rw [if_neg e, if_neg (fun w => e w.1)]; exact hB.mv Q hQ
    · show (mB (mB s 31 P (lI (z.pos P + v))) 34 P (lI (z.wnt P - v))).2.2.2 37 Q = lI (z.paid Q)
      rw [mB_ne (by decide), mB_ne (by decide)]; exact hB.paid Q hQ
  · rw [if_pos ((cmp_ge0 hv (by omega)).mpr (by omega)), Option.bind_some]
    have gen : ∀ u : Int32, (v = 0 → u = 0) → (v ≠ 0 → u = 1) → ∃ s', some (mA (mB (mB s 31 P (lI (z.pos P + v))) 35 P (lI (z.cam P + v))) 36 P ((mB (mB s 31 P (lI (z.pos P + v))) 35 P (lI (z.cam P + v))).2.2.1 36 P + u)) = some s' ∧ MB s' (z.mv1 P v) ∧ mX [] [] [36] [31, 34, 35, 37] s s' := by
      intro u u0 u1
      have x : mX [] [] [36] [31, 34, 35, 37] s (mA (mB (mB s 31 P (lI (z.pos P + v))) 35 P (lI (z.cam P + v))) 36 P ((mB (mB s 31 P (lI (z.pos P + v))) 35 P (lI (z.cam P + v))).2.2.1 36 P + u)) := ((mX.rf.B (by decide)).B (by decide)).A (by decide)
      refine ⟨_, rfl, hB.amt x rfl rfl rfl rfl rfl rfl rfl (fun Q hQ => ?_) (fun Q hQ => ?_) (fun Q hQ => ?_) (fun Q hQ => ?_) (fun Q hQ => ?_), x⟩
      · show (mB (mB s 31 P (lI (z.pos P + v))) 35 P (lI (z.cam P + v))).2.2.2 31 Q = lI (if Q = P then z.pos Q + v else z.pos Q)
        rw [mB_ne (by decide), mB_at]
        by_cases e : Q = P
        · rw [if_pos e, if_pos e, e]
        · rw [if_neg e, if_neg e]; exact hB.pos Q hQ
      · show (mB (mB s 31 P (lI (z.pos P + v))) 35 P (lI (z.cam P + v))).2.2.2 34 Q = lI (if Q = P ∧ v < 0 then z.wnt Q - v else z.wnt Q)
        rw [mB_ne (by decide), mB_ne (by decide), if_neg (fun w => h w.2)]; exact hB.wnt Q hQ
      · show (mB (mB s 31 P (lI (z.pos P + v))) 35 P (lI (z.cam P + v))).2.2.2 35 Q = lI (if Q = P ∧ 0 < v then z.cam Q + v else z.cam Q)
        rw [mB_at, mB_ne (by decide)]
        by_cases e : Q = P
        · rw [if_pos e]
          by_cases h0 : v = 0
          · rw [if_neg (fun w => by omega), e, h0, Int.add_zero]
          · rw [if_pos ⟨e, by omega⟩, e]
        · rw [if_neg e, if_neg (fun w => e w.1)]; exact hB.cam Q hQ
      · show _ = nI (if Q = P ∧ v ≠ 0 then z.mv Q + 1 else z.mv Q)
        rw [mA_at]
        by_cases e : Q = P
        · rw [if_pos e]
          show s.2.2.1 36 P + u = _
          by_cases h0 : v = 0
          · rw [if_neg (fun w => w.2 h0), u0 h0, Int32.add_zero, e]; exact hB.mv P hP
          · rw [if_pos ⟨e, h0⟩, u1 h0, hB.mv P hP, nI_add1, e]
        · rw [if_neg e, if_neg (fun w => e w.1)]; exact hB.mv Q hQ
      · show (mB (mB s 31 P (lI (z.pos P + v))) 35 P (lI (z.cam P + v))).2.2.2 37 Q = lI (z.paid Q)
        rw [mB_ne (by decide), mB_ne (by decide)]; exact hB.paid Q hQ
    by_cases h0 : v = 0
    · rw [if_neg (fun q => q ((cmp_eq0 hv (by omega)).mpr h0)), Option.bind_some]
      exact gen 0 (fun _ => rfl) (fun q => absurd h0 q)
    · rw [if_pos (fun q => h0 ((cmp_eq0 hv (by omega)).mp q)), Option.bind_some]
      exact gen 1 (fun q => absurd q h0) (fun _ => rfl)
/-- the amounts at these places moved -/
def Z.movK (z : Z) (i : Ins) (ks : List Nat) : Z := (z.1, ((fun P => if P ∈ ks then z.pos P + i.net z.fc P else z.pos P), (fun P => if P ∈ ks ∧ i.net z.fc P < 0 then z.wnt P - i.net z.fc P else z.wnt P), (fun P => if P ∈ ks ∧ 0 < i.net z.fc P then z.cam P + i.net z.fc P else z.cam P), (fun P => if P ∈ ks ∧ i.net z.fc P ≠ 0 then z.mv P + 1 else z.mv P), z.paid), z.2.2)
theorem d_done_loop {z : Z} (hX : okX z) {k : Nat} {i : Ins} (hN : okN z k i) {ks : List Nat} (hks : ∀ P ∈ ks, P < 81920) (hkl : ks.length ≤ 16) (hnd : ks.Nodup) : ∀ (d fu j : Nat) (s : mS), MB s (z.movK i (ks.take j)) → MI s k i → KS s ks → ks.length - j = d → d < fu → j ≤ ks.length → ∃ s', l_Mo_done_8 fu (nI k) (nI ks.length) (nI j) s = some s' ∧ MB s' (z.movK i ks) ∧ mX [] [] [36] [31, 34, 35, 37] s s' := by
  intro d
  induction d with
  | zero =>
    intro fu j s hB hI hK hd hf hj
    obtain ⟨fu, rfl⟩ : ∃ m, fu = m + 1 := ⟨fu - 1, by omega⟩
    unfold l_Mo_done_8
    rw [if_pos ((nI_le' (by omega) (by omega)).mpr (by omega))]
    rw [List.take_of_length_le (by omega)] at hB
    exact ⟨s, rfl, hB, mX.rf⟩
  | succ d ih =>
    intro fu j s hB hI hK hd hf hj
    obtain ⟨fu, rfl⟩ : ∃ m, fu = m + 1 := ⟨fu - 1, by omega⟩
    have hjl : j < ks.length := by omega
    have hQ := List.getElem?_eq_getElem hjl
    generalize hg : ks[j] = Q at hQ
    have hQb := hks Q (List.mem_of_getElem? hQ)
    have hnb := hN.net Q
    have htk := take_snoc hQ
    have hnq : Q ∉ ks.take j := by
      have : (ks.take (j + 1)).Nodup := hnd.sublist (List.take_sublist _ _)
      rw [htk, List.nodup_append] at this
      intro hq
      exact this.2.2 Q hq Q (by simp) rfl
    have hmem : ∀ P, P ∈ ks.take (j + 1) ↔ P ∈ ks.take j ∨ P = Q := fun P => by rw [htk]; simp
    unfold l_Mo_done_8
    rw [if_neg (fun q => by have := (nI_le' (by omega) (by omega)).mp q; omega), ixI (show j < 16 by omega) (by omega), Option.bind_some, hK j Q hQ]
    by_cases hp : Q < 16384
    · have hn := d_net (z := z.movK i (ks.take j)) hB ⟨hX.mem, hX.ast, hX.fc⟩ hI hN.lt (fun l hl => ⟨(hN.lg l hl).f, (hN.lg l hl).t, (hN.lg l hl).a, (hN.lg l hl).f0, (hN.lg l hl).t0, (hN.lg l hl).ft, (hN.lg l hl).v0, (hN.lg l hl).v⟩) hN.len hQb
      rw [show (z.movK i (ks.take j)).fc = z.fc from rfl] at hn
      rw [if_neg (fun q => by have := (nI_le' (a := 16384) (by omega) (by omega)).mp q; omega), hn, Option.bind_some]
      obtain ⟨s1, e1, B1, x1⟩ := d_move hB hp (v := i.net z.fc Q) (by omega)
      rw [e1, Option.bind_some, Option.bind_some, nI_add1]
      have B2 : MB s1 (z.movK i (ks.take (j + 1))) := by
        refine B1.eqv rfl rfl rfl rfl (fun P _ => ?_) (fun _ _ => rfl) (fun _ _ => rfl) (fun P _ => ?_) (fun P _ => ?_) (fun P _ => ?_) (fun _ _ => rfl) (fun _ _ => rfl)
        · show (if P ∈ ks.take (j + 1) then z.pos P + i.net z.fc P else z.pos P) = (if P = Q then (if P ∈ ks.take j then z.pos P + i.net z.fc P else z.pos P) + i.net z.fc Q else (if P ∈ ks.take j then z.pos P + i.net z.fc P else z.pos P))
          by_cases e : P = Q
          · subst e; rw [if_pos ((hmem P).mpr (Or.inr rfl)), if_pos rfl, if_neg hnq]
          · rw [if_neg e]; simp only [hmem, e, or_false]
        · show (if P ∈ ks.take (j + 1) ∧ i.net z.fc P < 0 then z.wnt P - i.net z.fc P else z.wnt P) = (if P = Q ∧ i.net z.fc Q < 0 then (if P ∈ ks.take j ∧ i.net z.fc P < 0 then z.wnt P - i.net z.fc P else z.wnt P) - i.net z.fc Q else (if P ∈ ks.take j ∧ i.net z.fc P < 0 then z.wnt P - i.net z.fc P else z.wnt P))
          by_cases e : P = Q
          · subst e; simp only [hmem, hnq, or_true, true_and, false_and, if_false]
          · simp only [hmem, e, or_false, false_and, if_false]
        · show (if P ∈ ks.take (j + 1) ∧ 0 < i.net z.fc P then z.cam P + i.net z.fc P else z.cam P) = (if P = Q ∧ 0 < i.net z.fc Q then (if P ∈ ks.take j ∧ 0 < i.net z.fc P then z.cam P + i.net z.fc P else z.cam P) + i.net z.fc Q else (if P ∈ ks.take j ∧ 0 < i.net z.fc P then z.cam P + i.net z.fc P else z.cam P))
          by_cases e : P = Q
          · subst e; simp only [hmem, hnq, or_true, true_and, false_and, if_false]
          · simp only [hmem, e, or_false, false_and, if_false]
        · show (if P ∈ ks.take (j + 1) ∧ i.net z.fc P ≠ 0 then z.mv P + 1 else z.mv P) = (if P = Q ∧ i.net z.fc Q ≠ 0 then (if P ∈ ks.take j ∧ i.net z.fc P ≠ 0 then z.mv P + 1 else z.mv P) + 1 else (if P ∈ ks.take j ∧ i.net z.fc P ≠ 0 then z.mv P + 1 else z.mv P))
          by_cases e : P = Q
          · subst e; simp only [hmem, hnq, or_true, true_and, false_and, if_false]
          · simp only [hmem, e, or_false, false_and, if_false]
      obtain ⟨s', r1, r2, r3⟩ := ih fu (j + 1) s1 B2 (hI.x x1 (by decide) (by decide)) (fun a b c => (x1.eA 57 (by decide) a).trans (hK a b c)) (by omega) (by omega) (by omega)
      exact ⟨s', r1, r2, x1.tr r3⟩
    · rw [if_pos (show (16384 : Int32) ≤ nI Q from (nI_le' (a := 16384) (by omega) (by omega)).mpr (by omega)), Option.bind_some, nI_add1]
      have hm2 : ∀ P, P < 16384 → (P ∈ ks.take (j + 1) ↔ P ∈ ks.take j) := fun P hP => by
        rw [hmem]
        constructor
        · rintro (h | h)
          · exact h
          · omega
        · exact Or.inl
      refine ih fu (j + 1) s ?_ hI hK (by omega) (by omega) (by omega)
      refine hB.eqv rfl rfl rfl rfl (fun P q => ?_) (fun _ _ => rfl) (fun _ _ => rfl) (fun P q => ?_) (fun P q => ?_) (fun P q => ?_) (fun _ _ => rfl) (fun _ _ => rfl)
      · show (if P ∈ ks.take (j + 1) then z.pos P + i.net z.fc P else z.pos P) = (if P ∈ ks.take j then z.pos P + i.net z.fc P else z.pos P)
        simp only [hm2 P q]
      · show (if P ∈ ks.take (j + 1) ∧ i.net z.fc P < 0 then z.wnt P - i.net z.fc P else z.wnt P) = (if P ∈ ks.take j ∧ i.net z.fc P < 0 then z.wnt P - i.net z.fc P else z.wnt P)
        simp only [hm2 P q]
      · show (if P ∈ ks.take (j + 1) ∧ 0 < i.net z.fc P then z.cam P + i.net z.fc P else z.cam P) = (if P ∈ ks.take j ∧ 0 < i.net z.fc P then z.cam P + i.net z.fc P else z.cam P)
        simp only [hm2 P q]
      · show (if P ∈ ks.take (j + 1) ∧ i.net z.fc P ≠ 0 then z.mv P + 1 else z.mv P) = (if P ∈ ks.take j ∧ i.net z.fc P ≠ 0 then z.mv P + 1 else z.mv P)
        simp only [hm2 P q]
theorem legN_room {fc : Option Nat} {l : Leg} {k : Nat} : legN fc (16384 + k) l = if some l.a = fc then (if l.f = k / 256 ∧ l.t = k % 256 then -(l.v : Int) else if l.f = k % 256 ∧ l.t = k / 256 then (l.v : Int) else 0) else 0 := by
  unfold legN
  rw [if_neg (by omega), Nat.add_sub_cancel_left]
def Z.pad (z : Z) (ls : List Leg) : Z := (z.1, (z.pos, z.wnt, z.cam, z.mv, (fun k => z.paid k - netL z.fc (16384 + k) ls)), z.2.2)
theorem d_paid_loop {z : Z} (hX : okX z) {k : Nat} {i : Ins} (hN : okN z k i) : ∀ (d fu j : Nat) (s : mS), MB s (z.pad (i.legs.take j)) → MI s k i → i.legs.length - j = d → d < fu → j ≤ i.legs.length → ∃ s', l_Mo_done_56 fu (nI k) (nI (4 * k + j)) s = some s' ∧ MB s' (z.pad i.legs) ∧ mX [] [] [36] [31, 34, 35, 37] s s' := by
  have hx1 := hX.mem
  have hx2 := hX.ast
  have hk := hN.lt
  have hlen := hN.len
  intro d
  induction d with
  | zero =>
    intro fu j s hB hI hd hf hj
    obtain ⟨fu, rfl⟩ : ∃ m, fu = m + 1 := ⟨fu - 1, by omega⟩
    unfold l_Mo_done_56
    rw [ixI hk (by omega), Option.bind_some, hI.len, show (4 : Int32) * nI k + nI i.legs.length = nI (4 * k + i.legs.length) by rw [show (4 : Int32) = nI 4 from rfl, nI_mul, nI_add'], if_pos ((nI_le' (by omega) (by omega)).mpr (by omega))]
    rw [List.take_of_length_le (by omega)] at hB
    exact ⟨s, rfl, hB, mX.rf⟩
  | succ d ih =>
    intro fu j s hB hI hd hf hj
    obtain ⟨fu, rfl⟩ : ∃ m, fu = m + 1 := ⟨fu - 1, by omega⟩
    obtain ⟨l, hl⟩ : ∃ l, i.legs[j]? = some l := ⟨_, List.getElem?_eq_getElem (show j < i.legs.length by omega)⟩
    obtain ⟨g1, g2, g3, g4, g5⟩ := hI.lg j l hl
    obtain ⟨o1, o2, o3, o4, o5, o6, o7, o8⟩ := hN.lg l (List.mem_of_getElem? hl)
    have eR : ∀ p q : Nat, (256 : Int32) * nI p + nI q = nI (256 * p + q) := fun p q => by rw [show (256 : Int32) = nI 256 from rfl, nI_mul, nI_add']
    have ho := oI_eq (z := z) (a := l.a) (fun b hb => by have := hX.fc b hb; omega) (by omega)
    unfold l_Mo_done_56
    rw [ixI hk (by omega), Option.bind_some, hI.len, show (4 : Int32) * nI k + nI i.legs.length = nI (4 * k + i.legs.length) by rw [show (4 : Int32) = nI 4 from rfl, nI_mul, nI_add'], if_neg (fun q => by have := (nI_le' (by omega) (by omega)).mp q; omega), ixI (show 4 * k + j < 1000 by omega) (by omega), Option.bind_some, g1, g2, g3, g4, show s.1 16 = oI z.fc from hB.fir, eR, eR]
    have hpd : ∀ q, (z.pad (i.legs.take (j + 1))).paid q = (z.pad (i.legs.take j)).paid q - legN z.fc (16384 + q) l := fun q => by
      show z.paid q - netL z.fc (16384 + q) (i.legs.take (j + 1)) = z.paid q - netL z.fc (16384 + q) (i.legs.take j) - legN z.fc (16384 + q) l
      rw [take_snoc hl, netL_snoc]; omega
    by_cases hfc : some l.a = z.fc
    · rw [if_pos (ho.mpr hfc), ixI (show 256 * l.f + l.t < 65536 by omega) (by omega), Option.bind_some, ixI (show 256 * l.t + l.f < 65536 by omega) (by omega), Option.bind_some, Option.bind_some, nI_add1, hB.paid _ (by omega), lI_add]
      have x1 : mX [] [] [36] [31, 34, 35, 37] s (mB (mB s 37 (256 * l.f + l.t) (lI ((z.pad (i.legs.take j)).paid (256 * l.f + l.t) + l.v))) 37 (256 * l.t + l.f) ((mB s 37 (256 * l.f + l.t) (lI ((z.pad (i.legs.take j)).paid (256 * l.f + l.t) + l.v))).2.2.2 37 (256 * l.t + l.f) - lI l.v)) := (mX.rf.B (by decide)).B (by decide)
      have B2 : MB (mB (mB s 37 (256 * l.f + l.t) (lI ((z.pad (i.legs.take j)).paid (256 * l.f + l.t) + l.v))) 37 (256 * l.t + l.f) ((mB s 37 (256 * l.f + l.t) (lI ((z.pad (i.legs.take j)).paid (256 * l.f + l.t) + l.v))).2.2.2 37 (256 * l.t + l.f) - lI l.v)) (z.pad (i.legs.take (j + 1))) := by
        refine hB.amt x1 (Eq.trans (b := z.mem) rfl rfl) (Eq.trans (b := z.ast) rfl rfl) (Eq.trans (b := z.fc) rfl rfl) (Eq.trans (b := z.lims) rfl rfl) (Eq.trans (b := z.pl) rfl rfl) (Eq.trans (b := z.beg) rfl rfl) (Eq.trans (b := z.lim) rfl rfl) (fun P q => ?_) (fun P q => ?_) (fun P q => ?_) (fun P q => ?_) (fun P q => ?_)
        · rw [mB_ne (by decide), mB_ne (by decide), hB.pos P q]; exact congrArg lI (Eq.trans (b := z.pos P) rfl rfl)
        · rw [mB_ne (by decide), mB_ne (by decide), hB.wnt P q]; exact congrArg lI (Eq.trans (b := z.wnt P) rfl rfl)
        · rw [mB_ne (by decide), mB_ne (by decide), hB.cam P q]; exact congrArg lI (Eq.trans (b := z.cam P) rfl rfl)
        · exact (hB.mv P q).trans (congrArg nI (Eq.trans (b := z.mv P) rfl rfl))
        · rw [hpd, legN_room, if_pos hfc, mB_at, mB_at, mB_at]
          by_cases e1 : P = 256 * l.t + l.f
          · have n1 : ¬ (l.f = P / 256 ∧ l.t = P % 256) := fun w => by omega
            rw [if_pos e1, if_neg n1, if_pos (show l.f = P % 256 ∧ l.t = P / 256 by omega), if_neg (by omega), hB.paid _ (by omega), lI_sub, e1]
          · rw [if_neg e1]
            by_cases e2 : P = 256 * l.f + l.t
            · rw [if_pos e2, if_pos (show l.f = P / 256 ∧ l.t = P % 256 by omega), e2]
              congr 1; omega
            · rw [if_neg e2, if_neg (fun w => e2 (by omega)), if_neg (fun w => e1 (by omega)), hB.paid P q]
              congr 1; omega
      obtain ⟨s', r1, r2, r3⟩ := ih fu (j + 1) _ B2 (hI.x x1 (by decide) (by decide)) (by omega) (by omega) (by omega)
      exact ⟨s', r1, r2, x1.tr r3⟩
    · rw [if_neg (fun q => hfc (ho.mp q)), Option.bind_some, nI_add1]
      refine ih fu (j + 1) s ?_ hI (by omega) (by omega) (by omega)
      refine hB.eqv (Eq.trans (b := z.mem) rfl rfl) (Eq.trans (b := z.ast) rfl rfl) (Eq.trans (b := z.fc) rfl rfl) (Eq.trans (b := z.lims) rfl rfl) (fun P _ => Eq.trans (b := z.pos P) rfl rfl) (fun P _ => Eq.trans (b := z.pl P) rfl rfl) (fun P _ => Eq.trans (b := z.beg P) rfl rfl) (fun P _ => Eq.trans (b := z.wnt P) rfl rfl) (fun P _ => Eq.trans (b := z.cam P) rfl rfl) (fun P _ => Eq.trans (b := z.mv P) rfl rfl) (fun P q => ?_) (fun P _ => Eq.trans (b := z.lim P) rfl rfl)
      rw [hpd, legN_room, if_neg hfc]; omega
def evB (z : Z) (c : Nat) (i : Ins) : List Int32 := [nI c] ++ chs (z.mem.getD i.who []) ++ chs i.nm ++ [nI 10]
theorem d_event {s : mS} {z : Z} (hcd0 : ∀ k c, z.mem[k]? = some c → s.2.2.2 26 k = lI (b256 c)) (hm : z.mem.length ≤ 256) (hcod : ∀ c ∈ z.mem, c.length = 4 ∧ is36 c) {k : Nat} {i : Ins} (hI : MI s k i) (hok : okI z i) (hk : k < 250) {c : Nat} (hc : c < 128) {bs : List Int32} (hA : AN s bs) (hl : bs.length + 14 < 32768) {β : Type} (g : Nat → mS → Option β) (Q : Option β → Prop) (hg : ∀ s', AN s' (bs ++ evB z c i) → mX [7] [] [25] [] s s' → Q (g k s')) : Q ((d_Mo_put (nI c) s).bind fun q83 => ((am_ix (nI k) 250).bind fun j92 => ((am_ix (q83.2.2.1 43 j92) 256).bind fun j95 => ((d_Mo_putName (q83.2.2.2 26 j95) 4 q83).bind fun q98 => ((d_Mo_putName (q98.2.2.2 46 j92) 8 q98).bind fun q107 => ((d_Mo_put 10 q107).bind (g j92))))))) := by
  obtain ⟨s1, e1, A1, x1⟩ := d_put' hA (by omega) hc
  have hw := hok.who
  obtain ⟨cd, hcd⟩ : ∃ cd, z.mem[i.who]? = some cd := ⟨_, List.getElem?_eq_getElem hw⟩
  obtain ⟨c1, c2⟩ := hcod cd (List.mem_of_getElem? hcd)
  obtain ⟨s2, e2, A2, x2⟩ := d_putName (d := cd) (n := 3) c2 c1 (by omega) A1 (by simp; omega)
  obtain ⟨s3, e3, A3, x3⟩ := d_putName (d := i.nm) (n := 7) hok.nm.2 hok.nm.1 (by omega) A2 (by simp [chs_len, c1]; omega)
  obtain ⟨s4, e4, A4, x4⟩ := d_put' (x := 10) A3 (by simp [chs_len, c1, hok.nm.1]; omega) (by omega)
  rw [e1, Option.bind_some, ixI hk (by omega), Option.bind_some, x1.eA 43 (by decide), hI.who, ixI (show i.who < 256 by omega) (by omega), Option.bind_some, x1.eB 26 (by decide), hcd0 _ _ hcd, show (4 : Int32) = nI (3 + 1) from rfl, e2, Option.bind_some, (x1.tr x2).eB 46 (by decide), hI.nm, show (8 : Int32) = nI (7 + 1) from rfl, e3, Option.bind_some, show (10 : Int32) = nI 10 from rfl, e4, Option.bind_some]
  refine hg s4 ?_ (((x1.tr x2).tr x3).tr x4)
  have : z.mem.getD i.who [] = cd := by rw [List.getD_eq_getElem?_getD, hcd]; rfl
  unfold evB
  rw [this]
  simpa [List.append_assoc] using A4
theorem evB_len {z : Z} (hcod : ∀ c ∈ z.mem, c.length = 4 ∧ is36 c) {i : Ins} (hok : okI z i) (c : Nat) : (evB z c i).length = 14 := by
  obtain ⟨cd, hcd⟩ : ∃ cd, z.mem[i.who]? = some cd := ⟨_, List.getElem?_eq_getElem hok.who⟩
  obtain ⟨c1, c2⟩ := hcod cd (List.mem_of_getElem? hcd)
  have : z.mem.getD i.who [] = cd := by rw [List.getD_eq_getElem?_getD, hcd]; rfl
  unfold evB
  rw [this]
  simp [chs_len, c1, hok.nm.1]
/-- what is looked for among those that settle -/
def ST (s : mS) (w : Nat) (nm : List Nat) : Prop := s.1 53 = nI w ∧ s.2.1 52 = lI (b256 nm)
theorem b256_inL {d : List Nat} (h1 : d.length = 8) (h2 : is36 d) : inL (b256 d) := by
  have := b256_lt 7 d h1 h2
  have h3 : (256 : Nat) ^ 7 = 72057594037927936 := by decide
  omega
theorem d_done {s : mS} {z : Z} (hX : okX z) (hcod : ∀ c ∈ z.mem, c.length = 4 ∧ is36 c) (hlim : ∀ k, inL (z.lim k)) (hB : MB s z) {k : Nat} {i : Ins} (hI : MI s k i) (hok : okI z i) (hk : k < 250) {bs : List Int32} (hA : AN s bs) (hl : bs.length + 14 < 32768) {b : Bool} (hb : s.1 54 = b2i b) : ∃ s' b', d_Mo_done (nI k) s = some s' ∧ MB s' (z.mov i) ∧ AN s' (bs ++ evB z 83 i) ∧ s'.1 54 = b2i b' ∧ (∀ w nm, ST s w nm → w < 256 → nm.length = 8 → is36 nm → b' = (b || decide (i.who = w ∧ i.nm = nm))) ∧ mX [7, 54] [] [25, 36, 57] [31, 34, 35, 37] s s' := by
  have hN : okN z k i := ⟨hk, hok.lg, hok.len.2⟩
  have hlen := hok.len
  obtain ⟨ks, s1, e1, K1, k1, l1, x1⟩ := d_places hB hX hlim hI hk hok.lg hok.len.2
  have B1 := hB.x x1 (by decide) (by decide) (by decide)
  have I1 := hI.x x1 (by decide) (by decide)
  have x1' : mX [7, 54] [] [25, 36, 57] [31, 34, 35, 37] s s1 := x1.mono (by simp) (by simp) (by simp) (by simp)
  obtain ⟨s2, e2, B2, x2⟩ := d_done_loop hX hN (k1.lt hX hN) l1 k1.nd _ 100000 0 s1 (B1.eqv rfl rfl rfl rfl (fun P _ => by simp [Z.movK, Z.pos, Z.wnt, Z.cam, Z.mv]) (fun _ _ => rfl) (fun _ _ => rfl) (fun P _ => by simp [Z.movK, Z.pos, Z.wnt, Z.cam, Z.mv]) (fun P _ => by simp [Z.movK, Z.pos, Z.wnt, Z.cam, Z.mv]) (fun P _ => by simp [Z.movK, Z.pos, Z.wnt, Z.cam, Z.mv]) (fun _ _ => rfl) (fun _ _ => rfl)) I1 K1 rfl (by omega) (by omega)
  have I2 := I1.x x2 (by decide) (by decide)
  obtain ⟨s3, e3, B3, x3⟩ := d_paid_loop (z := z.movK i ks) ⟨hX.mem, hX.ast, hX.fc⟩ (k := k) (i := i) ⟨hk, fun l hl => ⟨(hN.lg l hl).f, (hN.lg l hl).t, (hN.lg l hl).a, (hN.lg l hl).f0, (hN.lg l hl).t0, (hN.lg l hl).ft, (hN.lg l hl).v0, (hN.lg l hl).v⟩, hN.len⟩ _ 100000 0 s2 (B2.eqv rfl rfl rfl rfl (fun _ _ => rfl) (fun _ _ => rfl) (fun _ _ => rfl) (fun _ _ => rfl) (fun _ _ => rfl) (fun _ _ => rfl) (fun P _ => by show (z.movK i ks).paid P - 0 = _; omega) (fun _ _ => rfl)) I2 rfl (by omega) (by omega)
  have I3 := I2.x x3 (by decide) (by decide)
  have x23 := (x2.tr x3).mono (ki' := [7, 54]) (kl' := []) (ka' := [25, 36, 57]) (kb' := [31, 34, 35, 37]) (by simp) (by simp) (by simp) (by simp)
  have x13 := x1'.tr x23
  have B4 : MB s3 (z.mov i) := by
    have hin : ∀ P, P < 16384 → i.net z.fc P ≠ 0 → P ∈ ks := by
      intro P hP hn
      rw [k1.mem]
      have hm := net_mem hn
      refine ⟨hm, ?_⟩
      obtain ⟨l, h1, h2⟩ := List.mem_flatMap.mp hm
      obtain ⟨o1, o2, o3, o4, o5, o6, o7, o8⟩ := hN.lg l h1
      unfold Z.fld
      rw [if_pos hP]
      refine decide_eq_true ?_
      rcases legP_mem.mp h2 with h | h | ⟨-, h | h⟩ <;> omega
    refine B3.eqv rfl rfl rfl rfl (fun P q => ?_) (fun _ _ => rfl) (fun _ _ => rfl) (fun P q => ?_) (fun P q => ?_) (fun P q => ?_) (fun P q => rfl) (fun _ _ => rfl)
    · show z.pos P + i.net z.fc P = (if P ∈ ks then z.pos P + i.net z.fc P else z.pos P)
      by_cases h : P ∈ ks
      · rw [if_pos h]
      · rw [if_neg h]
        have : i.net z.fc P = 0 := Decidable.byContradiction fun hn => h (hin P q hn)
        omega
    · show (if i.net z.fc P < 0 then z.wnt P - i.net z.fc P else z.wnt P) = (if P ∈ ks ∧ i.net z.fc P < 0 then z.wnt P - i.net z.fc P else z.wnt P)
      by_cases h : i.net z.fc P < 0
      · rw [if_pos h, if_pos ⟨hin P q (by omega), h⟩]
      · rw [if_neg h, if_neg (fun w => h w.2)]
    · show (if 0 < i.net z.fc P then z.cam P + i.net z.fc P else z.cam P) = (if P ∈ ks ∧ 0 < i.net z.fc P then z.cam P + i.net z.fc P else z.cam P)
      by_cases h : 0 < i.net z.fc P
      · rw [if_pos h, if_pos ⟨hin P q (by omega), h⟩]
      · rw [if_neg h, if_neg (fun w => h w.2)]
    · show (if i.net z.fc P = 0 then z.mv P else z.mv P + 1) = (if P ∈ ks ∧ i.net z.fc P ≠ 0 then z.mv P + 1 else z.mv P)
      by_cases h : i.net z.fc P = 0
      · rw [if_pos h, if_neg (fun w => w.2 h)]
      · rw [if_neg h, if_pos ⟨hin P q h, h⟩]
  unfold d_Mo_done
  rw [e1, Option.bind_some]
  simp only []
  rw [show l_Mo_done_8 100000 (nI k) (nI ks.length) 0 s1 = some s2 from e2, Option.bind_some, show (4 : Int32) * nI k = nI (4 * k + 0) by rw [show (4 : Int32) = nI 4 from rfl, nI_mul]; rfl, e3, Option.bind_some]
  have A3 := (hA.x x1 (by decide) (by decide)).x (x2.tr x3) (by decide) (by decide)
  have hw := hok.who
  have hxm := hX.mem
  refine d_event (z := z) B4.cod hX.mem hcod I3 hok hk (c := 83) (by omega) A3 hl (fun j92 q116 => ((if ¬ ((q116.1 54) : Int32) = 0 then (some 1) else (if ¬ ((q116.2.2.1 43 j92) : Int32) = (q116.1 53) then (some 0) else (if ¬ ((lg_cmp (q116.2.2.2 46 j92) (q116.2.1 52)) : Int32) = 0 then (some 0) else (some 1)))).bind fun (u125 : Int32) => (if u125 = 0 ∨ u125 = 1 then (some (mI q116 54 u125)) else none))) (fun r => ∃ s' b', r = some s' ∧ MB s' (z.mov i) ∧ AN s' (bs ++ evB z 83 i) ∧ s'.1 54 = b2i b' ∧ (∀ w nm, ST s w nm → w < 256 → nm.length = 8 → is36 nm → b' = (b || decide (i.who = w ∧ i.nm = nm))) ∧ mX [7, 54] [] [25, 36, 57] [31, 34, 35, 37] s s') (fun s4 A4 x4 => ?_)
  have q54 : s4.1 54 = b2i b := (x4.1 54 (by decide)).trans (((x2.tr x3).1 54 (by decide)).trans ((x1.1 54 (by decide)).trans hb))
  have q53 : s4.1 53 = s.1 53 := (x4.1 53 (by decide)).trans (x13.1 53 (by decide))
  have q52 : s4.2.1 52 = s.2.1 52 := (x4.2.1 52 (by decide)).trans (x13.2.1 52 (by decide))
  have I4 := I3.x x4 (by decide) (by decide)
  have x14 : mX [7, 54] [] [25, 36, 57] [31, 34, 35, 37] s s4 := x13.tr (x4.mono (by simp) (by simp) (by simp) (by simp))
  have B5 : MB s4 (z.mov i) := B4.x x4 (by decide) (by decide) (by decide)
  have fin : ∀ (u : Int32) (b' : Bool), u = b2i b' → (∀ w nm, ST s w nm → w < 256 → nm.length = 8 → is36 nm → b' = (b || decide (i.who = w ∧ i.nm = nm))) → ∃ s' b', ((some u).bind fun (u125 : Int32) => (if u125 = 0 ∨ u125 = 1 then (some (mI s4 54 u125)) else none)) = some s' ∧ MB s' (z.mov i) ∧ AN s' (bs ++ evB z 83 i) ∧ s'.1 54 = b2i b' ∧ (∀ w nm, ST s w nm → w < 256 → nm.length = 8 → is36 nm → b' = (b || decide (i.who = w ∧ i.nm = nm))) ∧ mX [7, 54] [] [25, 36, 57] [31, 34, 35, 37] s s' := by
    intro u b' hu hb'
    have h01 : u = 0 ∨ u = 1 := by rw [hu]; cases b'; exact Or.inl rfl; exact Or.inr rfl
    have x5 : mX [54] [] [] [] s4 (mI s4 54 u) := mX.rf.I (by decide)
    rw [Option.bind_some, if_pos h01]
    exact ⟨_, b', rfl, B5.x x5 (by decide) (by decide) (by decide), A4.x x5 (by decide) (by decide), hu, hb', x14.I (by decide)⟩
  show ∃ s' b', ((if ¬ ((s4.1 54) : Int32) = 0 then (some 1) else (if ¬ ((s4.2.2.1 43 k) : Int32) = (s4.1 53) then (some 0) else (if ¬ ((lg_cmp (s4.2.2.2 46 k) (s4.2.1 52)) : Int32) = 0 then (some 0) else (some 1)))).bind fun (u125 : Int32) => (if u125 = 0 ∨ u125 = 1 then (some (mI s4 54 u125)) else none)) = some s' ∧ _
  rw [q54, I4.who, I4.nm]
  cases b with
  | true =>
    rw [if_pos (by decide)]
    exact fin 1 true rfl (fun w nm _ _ _ _ => rfl)
  | false =>
    rw [if_neg (by decide)]
    by_cases h1 : nI i.who = s4.1 53
    · rw [if_neg (fun q => q h1)]
      by_cases h2 : lg_cmp (lI (b256 i.nm)) (s4.2.1 52) = 0
      · rw [if_neg (fun q => q h2)]
        refine fin 1 true rfl (fun w nm hs hw1 hn1 hn2 => ?_)
        rw [q53, hs.1] at h1
        rw [q52, hs.2] at h2
        have e1 := nI_inj (by omega) (by omega) h1
        have e2 := (cmp_eq0 (b256_inL hok.nm.1 hok.nm.2) (b256_inL hn1 hn2)).mp h2
        rw [decide_eq_true (show i.who = w ∧ i.nm = nm from ⟨e1, b256_inj 8 _ _ hok.nm.1 hn1 hok.nm.2 hn2 (by omega)⟩)]; rfl
      · rw [if_pos h2]
        refine fin 0 false rfl (fun w nm hs hw1 hn1 hn2 => ?_)
        rw [q52, hs.2] at h2
        rw [decide_eq_false (show ¬ (i.who = w ∧ i.nm = nm) from fun q => h2 ((cmp_eq0 (b256_inL hok.nm.1 hok.nm.2) (b256_inL hn1 hn2)).mpr (by rw [q.2])))]; rfl
    · rw [if_pos h1]
      refine fin 0 false rfl (fun w nm hs hw1 hn1 hn2 => ?_)
      rw [q53, hs.1] at h1
      rw [decide_eq_false (show ¬ (i.who = w ∧ i.nm = nm) from fun q => h1 (by rw [q.1]))]; rfl
