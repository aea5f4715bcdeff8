/-! The first that can settle. -/
/-- what the amounts and floors are bounded by -/
def okF (z : Z) : Prop := (∀ P, -3000000000000000000 ≤ z.lev P ∧ z.lev P ≤ 3000000000000000000) ∧ (∀ k, -1 ≤ z.lim k ∧ z.lim k < 1000000000000000) ∧ (∀ P, 0 ≤ z.pl P ∧ z.pl P ≤ 4000000000000000000) ∧ (∀ p, p < z.mem.length → z.crd p ≤ mostN)
theorem okF.lev {z : Z} (h : okF z) : ∀ P, -3000000000000000000 ≤ z.lev P ∧ z.lev P ≤ 3000000000000000000 := h.1
theorem okF.lim {z : Z} (h : okF z) : ∀ k, -1 ≤ z.lim k ∧ z.lim k < 1000000000000000 := h.2.1
theorem okF.pl {z : Z} (h : okF z) : ∀ P, 0 ≤ z.pl P ∧ z.pl P ≤ 4000000000000000000 := h.2.2.1
theorem okF.crd {z : Z} (h : okF z) : ∀ p, p < z.mem.length → z.crd p ≤ mostN := h.2.2.2
theorem okZ.f {n : Nat} {z : Z} (h : okZ n z) (hn : n ≤ 512) : okF z := by
  refine ⟨fun P => ?_, h.lim, (h.c hn).pl, fun p hp => h.crd1 hp⟩
  unfold Z.lev
  have h1 := h.pos P
  have h2 := h.paid (P - 16384)
  unfold big at *
  split <;> omega
theorem okF.flr {z : Z} (h : okF z) {P : Nat} (hP : P / 64 < z.mem.length ∨ 16384 ≤ P) : -4000000000000000000 ≤ z.flr P ∧ z.flr P ≤ 4000000000000000000 := by
  unfold Z.flr
  have h2 := h.pl P
  have h3 := h.lim (P - 16384)
  split
  · have h1 := h.crd (P / 64) (by omega)
    rw [mostV] at h1
    split
    · omega
    · split <;> omega
  · omega
theorem can_iff {z : Z} {m : Nat → Bool} {i : Ins} : z.can m i = true ↔ ∀ P, z.tks i P = true → m P = false ∧ z.flr P ≤ z.lev P + i.net z.fc P := by
  unfold Z.can
  rw [List.all_eq_true]
  constructor
  · intro h P ht
    have := h P (net_mem (by have := (tks_iff.mp ht).1; omega))
    rw [ht] at this
    simpa using this
  · intro h P _
    cases ht : z.tks i P with
    | false => rfl
    | true =>
      have := h P ht
      simp [this.1, this.2]
/-- the test of one place -/
theorem d_able_step {s : mS} {z : Z} (hB : MB s z) (hC : okC z) (hX : okX z) (hF : okF z) {k : Nat} {i : Ins} (hI : MI s k i) (hN : okN z k i) {tl : List Nat} (hM : MT s tl) {Q : Nat} (hQ : Q ∈ i.pls z.fc) : d_Mo_value (nI Q) s = some (lI (if Q < 16384 then z.pos Q else z.lim (Q - 16384) - z.paid (Q - 16384))) ∧ d_Mo_floor (nI Q) s = some (lI (if Q < 16384 then z.flr Q else 0)) := by
  obtain ⟨l, h1, h2⟩ := List.mem_flatMap.mp hQ
  have hol := hN.lg l h1
  have hlt := legP_lt hX hol h2
  obtain ⟨o1, o2, o3, o4, o5, o6, o7, o8⟩ := hol
  have hx1 := hX.mem
  have hx2 := hX.ast
  by_cases hp : Q < 16384
  · rw [if_pos hp, if_pos hp]
    have hh : Q % 64 = l.a ∧ (Q / 64 = l.f ∨ Q / 64 = l.t) := by
      rcases legP_mem.mp h2 with h | h | ⟨-, h | h⟩
      · exact ⟨by omega, Or.inl (by omega)⟩
      · exact ⟨by omega, Or.inr (by omega)⟩
      · omega
      · omega
    refine ⟨d_value hB hp, d_floor hB hC hX.fc hp (by rw [hh.1]; exact o3) (hF.crd _ ?_)⟩
    rcases hh.2 with h | h <;> omega
  · rw [if_neg hp, if_neg hp]
    obtain ⟨e, rfl⟩ : ∃ e, Q = 16384 + e := ⟨Q - 16384, by omega⟩
    rw [Nat.add_sub_cancel_left]
    exact ⟨d_value_r hB (by omega), d_floor_r (by omega) (by omega)⟩
theorem d_able_loop {s : mS} {z : Z} (hB : MB s z) (hC : okC z) (hX : okX z) (hF : okF z) {k : Nat} {i : Ins} (hI : MI s k i) (hN : okN z k i) {tl : List Nat} (hM : MT s tl) {ks : List Nat} (hK : KS s ks) (hks : ∀ P ∈ ks, P ∈ i.pls z.fc) (hkl : ks.length ≤ 16) (v1 v2 : Int32) : ∀ (d fu j : Nat) (b : Bool), ks.length - j = d → d < fu → j ≤ ks.length → l_Mo_firstAble_40 fu v1 v2 (nI k) (nI ks.length) (b2i b) (nI j) s = some (b2i (b && (ks.drop j).all fun P => decide (i.net z.fc P < 0 → P ∉ tl ∧ z.flr P ≤ z.lev P + i.net z.fc P))) := by
  intro d
  induction d with
  | zero =>
    intro fu j b hd hf hj
    obtain ⟨fu, rfl⟩ : ∃ m, fu = m + 1 := ⟨fu - 1, by omega⟩
    unfold l_Mo_firstAble_40
    rw [if_pos ((nI_le' (by omega) (by omega)).mpr (by omega)), List.drop_eq_nil_of_le (by omega), List.all_nil, Bool.and_true]
  | succ d ih =>
    intro fu j b hd hf hj
    obtain ⟨fu, rfl⟩ : ∃ m, fu = m + 1 := ⟨fu - 1, by omega⟩
    have hjl : j < ks.length := by omega
    have hQ := List.getElem?_eq_getElem hjl
    generalize hg : ks[j] = Q at hQ
    have hQm := hks Q (List.mem_of_getElem? hQ)
    have hQb : Q < 81920 := by
      obtain ⟨l, h1, h2⟩ := List.mem_flatMap.mp hQm
      exact legP_lt hX (hN.lg l h1) h2
    have hdr : ks.drop j = Q :: ks.drop (j + 1) := by rw [List.drop_eq_getElem_cons hjl, hg]
    have hnb := hN.net Q
    unfold l_Mo_firstAble_40
    rw [if_neg (fun q => by have := (nI_le' (by omega) (by omega)).mp q; omega), ixI (show j < 16 by omega) (by omega), Option.bind_some, hK j Q hQ, d_net hB hX hI hN.lt hN.lg hN.len hQb, Option.bind_some, lI_0, hdr, List.all_cons, ixI hQb (by omega)]
    obtain ⟨ev, ef⟩ := d_able_step hB hC hX hF hI hN hM hQm
    have hmem : Q / 64 < z.mem.length ∨ 16384 ≤ Q := by
      obtain ⟨l, h1, h2⟩ := List.mem_flatMap.mp hQm
      obtain ⟨o1, o2, o3, -, -, -, -, -⟩ := hN.lg l h1
      have := hX.ast
      rcases legP_mem.mp h2 with h | h | ⟨-, h | h⟩
      · left; omega
      · left; omega
      · right; omega
      · right; omega
    have fb := hF.flr hmem
    have lb := hF.lev Q
    have next : ∀ (c : Bool), l_Mo_firstAble_40 fu v1 v2 (nI k) (nI ks.length) (b2i c) (nI (j + 1)) s = some (b2i (c && (ks.drop (j + 1)).all fun P => decide (i.net z.fc P < 0 → P ∉ tl ∧ z.flr P ≤ z.lev P + i.net z.fc P))) := fun c => ih fu (j + 1) c (by omega) (by omega) (by omega)
    by_cases hq : i.net z.fc Q < 0
    · rw [if_neg (fun q => by have := (cmp_ge0 (by omega) (by omega)).mp q; omega), Option.bind_some, hM.mrk Q hQb]
      by_cases hm : Q ∈ tl
      · rw [if_pos (b2i_ne0.mpr (decide_eq_true hm)), Option.bind_some, nI_add1, show (0 : Int32) = b2i false from rfl, next]
        rw [decide_eq_false (show ¬ (i.net z.fc Q < 0 → Q ∉ tl ∧ z.flr Q ≤ z.lev Q + i.net z.fc Q) from fun w => (w hq).1 hm)]
        simp
      · rw [if_neg (fun q => q (b2i_eq0.mpr (decide_eq_false hm))), ev, Option.bind_some, ef, Option.bind_some, lI_add]
        have hd1 : (0 ≤ lg_cmp (lI ((if Q < 16384 then z.pos Q else z.lim (Q - 16384) - z.paid (Q - 16384)) + i.net z.fc Q)) (lI (if Q < 16384 then z.flr Q else 0))) ↔ z.flr Q ≤ z.lev Q + i.net z.fc Q := by
          by_cases hp : Q < 16384
          · have e : z.lev Q = z.pos Q := by unfold Z.lev; rw [if_pos hp]
            rw [if_pos hp, if_pos hp, ← e]
            exact cmp_ge0 (by omega) (by omega)
          · have e1 : z.lev Q = - z.paid (Q - 16384) := by unfold Z.lev; rw [if_neg hp]
            have e2 : z.flr Q = - z.lim (Q - 16384) := by unfold Z.flr; rw [if_neg hp]
            have := hF.lim (Q - 16384)
            rw [if_neg hp, if_neg hp, cmp_ge0 (by omega) (by omega)]
            omega
        by_cases hfl : z.flr Q ≤ z.lev Q + i.net z.fc Q
        · rw [if_pos (hd1.mpr hfl), Option.bind_some, nI_add1, next, decide_eq_true (show (i.net z.fc Q < 0 → Q ∉ tl ∧ z.flr Q ≤ z.lev Q + i.net z.fc Q) from fun _ => ⟨hm, hfl⟩), Bool.true_and]
        · rw [if_neg (fun q => hfl (hd1.mp q)), Option.bind_some, nI_add1, show (0 : Int32) = b2i false from rfl, next, decide_eq_false (show ¬ (i.net z.fc Q < 0 → Q ∉ tl ∧ z.flr Q ≤ z.lev Q + i.net z.fc Q) from fun w => hfl (w hq).2)]
          simp
    · rw [if_pos ((cmp_ge0 (by omega) (by omega)).mpr (by omega)), Option.bind_some, nI_add1, next, decide_eq_true (show (i.net z.fc Q < 0 → Q ∉ tl ∧ z.flr Q ≤ z.lev Q + i.net z.fc Q) from fun w => absurd w hq), Bool.true_and]
theorem can_keys {z : Z} {m : Nat → Bool} {i : Ins} {ks tl : List Nat} (hk : isK z i.legs ks) (hm : ∀ P, m P = true ↔ P ∈ tl) : (ks.all fun P => decide (i.net z.fc P < 0 → P ∉ tl ∧ z.flr P ≤ z.lev P + i.net z.fc P)) = z.can m i := by
  rw [Bool.eq_iff_iff, can_iff, List.all_eq_true]
  constructor
  · intro h P ht
    have h1 := (hk.tks P).mpr ht
    have h2 := of_decide_eq_true (h P h1.1) h1.2
    refine ⟨?_, h2.2⟩
    cases e : m P with
    | false => rfl
    | true => exact absurd ((hm P).mp e) h2.1
  · intro h P hP
    refine decide_eq_true fun hn => ?_
    have h2 := h P ((hk.tks P).mp ⟨hP, hn⟩)
    refine ⟨fun q => ?_, h2.2⟩
    rw [(hm P).mpr q] at h2
    cases h2.1
/-- where an index stands for what was found -/
def isF (z : Z) (o : List Nat) (r : Int32) (f : Option Ins) : Prop := (f = none ∧ r = -1) ∨ ∃ k, k ∈ o ∧ r = nI k ∧ f = some (z.at k)
theorem d_first_loop {n : Nat} {z : Z} (hC : okC z) (hX : okX z) (hF : okF z) (hO : okQ n z) {o : List Nat} (hol : o.length ≤ 250) (hob : ∀ k ∈ o, k < z.ins.length) : ∀ (d fu j : Nat) (s : mS) (tl : List Nat) (m : Nat → Bool), MB s z → MQu s z → OS s o → MT s tl → tl.Nodup → (∀ P ∈ tl, P < 81920) → tl.length ≤ 16 * j → (∀ P, m P = true ↔ P ∈ tl) → o.length - j = d → d < fu → j ≤ o.length → ∃ r s' tl', l_Mo_firstAble_8 fu (-1) (nI j) s = some (r, s') ∧ isF z o r (z.fst m ((o.drop j).map z.at)) ∧ MT s' tl' ∧ tl'.Nodup ∧ (∀ P ∈ tl', P < 81920) ∧ tl'.length ≤ 4096 ∧ mX [48] [] [56, 57, 58] [] s s' := by
  have hlim : ∀ k, inL (z.lim k) := fun k => by have := hF.lim k; omega
  intro d
  induction d with
  | zero =>
    intro fu j s tl m hB hQ hS hM hnd hb hl hm hd hf hj
    obtain ⟨fu, rfl⟩ : ∃ m, fu = m + 1 := ⟨fu - 1, by omega⟩
    unfold l_Mo_firstAble_8
    rw [hS.1, if_pos ((nI_le' (by omega) (by omega)).mpr (by omega)), List.drop_eq_nil_of_le (by omega)]
    exact ⟨-1, s, tl, rfl, Or.inl ⟨rfl, rfl⟩, hM, hnd, hb, by omega, mX.rf⟩
  | succ d ih =>
    intro fu j s tl m hB hQ hS hM hnd hb hl hm hd hf hj
    obtain ⟨fu, rfl⟩ : ∃ m, fu = m + 1 := ⟨fu - 1, by omega⟩
    have hjl : j < o.length := by omega
    have hk := List.getElem?_eq_getElem hjl
    generalize hg : o[j] = k at hk
    have hkm := List.mem_of_getElem? hk
    have hkl := hob k hkm
    have hdr : o.drop j = k :: o.drop (j + 1) := by rw [List.drop_eq_getElem_cons hjl, hg]
    have hI := hQ.ins k _ (at_some hkl)
    have hN := hO.n hkl
    unfold l_Mo_firstAble_8
    rw [hS.1, if_neg (fun q => by have := (nI_le' (by omega) (by omega)).mp q; omega), if_neg (by decide), ixI (show j < 250 by omega) (by omega), Option.bind_some, hS.2 j k hk]
    obtain ⟨ks, s1, e1, K1, k1, l1, x1⟩ := d_places hB hX hlim hI hN.lt hN.lg hN.len
    have B1 := hB.x x1 (by decide) (by decide) (by decide)
    have I1 := hI.x x1 (by decide) (by decide)
    have M1 := hM.x x1 (by decide) (by decide)
    have e2 := d_able_loop B1 hC hX hF I1 hN M1 K1 (fun P hP => ((k1.mem P).mp hP).1) l1 (-1) (nI j) _ 100000 0 true rfl (by omega) (by omega)
    rw [e1, Option.bind_some]
    simp only []
    rw [show l_Mo_firstAble_40 100000 (-1) (nI j) (nI k) (nI ks.length) 1 0 s1 = _ from e2, Option.bind_some, Bool.true_and, List.drop_zero, can_keys k1 hm, hdr, List.map_cons]
    by_cases hc : z.can m (z.at k) = true
    · rw [hc, if_neg (by decide), Option.bind_some]
      have hf1 : z.fst m (z.at k :: (o.drop (j + 1)).map z.at) = some (z.at k) := by
        show (if z.can m (z.at k) = true then _ else _) = _
        rw [if_pos hc]
      rw [hf1]
      have : l_Mo_firstAble_8 fu (nI k) (nI j + 1) s1 = some (nI k, s1) := by
        obtain ⟨fu, rfl⟩ : ∃ m, fu = m + 1 := ⟨fu - 1, by omega⟩
        unfold l_Mo_firstAble_8
        by_cases hq : s1.1 32 ≤ nI j + 1
        · rw [if_pos hq]
        · rw [if_neg hq, if_pos (show (0 : Int32) ≤ nI k from (nI_le' (a := 0) (by omega) (by have := hO.len; omega)).mpr (by omega))]
      rw [this]
      exact ⟨nI k, s1, tl, rfl, Or.inr ⟨k, hkm, rfl, rfl⟩, M1, hnd, hb, by omega, x1.mono (by simp) (by simp) (by simp) (by simp)⟩
    · rw [show z.can m (z.at k) = false by simpa using hc, if_pos (show b2i false = 0 from rfl)]
      obtain ⟨tl', s2, r1, r2, r3, r4, r5, r6, r7⟩ := d_touchTaken B1 hX hlim I1 hN M1 hnd hb (by omega)
      rw [r1, Option.bind_some, Option.bind_some, nI_add1]
      have hf1 : z.fst m (z.at k :: (o.drop (j + 1)).map z.at) = z.fst (z.mrk m (z.at k)) ((o.drop (j + 1)).map z.at) := by
        show (if z.can m (z.at k) = true then _ else _) = _
        rw [if_neg hc]
      have x2 : mX [48] [] [56, 57, 58] [] s s2 := (x1.mono (by simp) (by simp) (by simp) (by simp)).tr r7
      obtain ⟨r, s', tl2, q1, q2, q3, q4, q5, q6, q7⟩ := ih fu (j + 1) s2 tl' (z.mrk m (z.at k)) (hB.x x2 (by decide) (by decide) (by decide)) (hQ.x x2 (by decide) (by decide) (by decide) (by decide)) (hS.x x2 (by decide) (by decide)) r2 r3 r4 (by omega) (fun P => by
        unfold Z.mrk
        rw [Bool.or_eq_true, hm, r6]) (by omega) (by omega) (by omega)
      rw [hf1]
      exact ⟨r, s', tl2, q1, q2, q3, q4, q5, q6, x2.tr q7⟩
theorem d_first {n : Nat} {s : mS} {z : Z} (hC : okC z) (hX : okX z) (hF : okF z) (hO : okQ n z) (hn : n ≤ 512) (hB : MB s z) (hQ : MQu s z) (h0 : M0 s) : ∃ r s' o, d_Mo_firstAble s = some (r, s') ∧ isO z z.ins.length o ∧ isF z o r (z.fst (fun _ => false) (o.map z.at)) ∧ M0 s' ∧ mX [32, 48] [] [55, 56, 57, 58] [59] s s' := by
  obtain ⟨o, s1, e1, S1, O1, x1⟩ := d_sort hQ hO hn
  have hol := O1.len
  have hil := hO.len
  obtain ⟨r, s2, tl, q1, q2, q3, q4, q5, q6, q7⟩ := d_first_loop hC hX hF hO (o := o) (by omega) (fun k hk => ((O1.mem k).mp hk).1) _ 100000 0 s1 [] (fun _ => false) (hB.x x1 (by decide) (by decide) (by decide)) (hQ.x x1 (by decide) (by decide) (by decide) (by decide)) S1 (h0.1.x x1 (by decide) (by decide)) List.nodup_nil (by simp) (by simp) (by simp) rfl (by omega) (by omega)
  have hsu : SU s2 tl := fun P hP _ => (q7.eB 59 (by decide) P).trans ((x1.eB 59 (by decide) P).trans (h0.2 P hP (by simp)))
  obtain ⟨s3, u1, u2, u3⟩ := d_untouch q3 hsu q6 q5 q4
  unfold d_Mo_firstAble
  rw [e1, Option.bind_some, show l_Mo_firstAble_8 100000 (-1) 0 s1 = some (r, s2) from q1, Option.bind_some, u1, Option.bind_some]
  rw [List.drop_zero] at q2
  exact ⟨r, s3, o, rfl, O1, q2, u2, ((x1.mono (by simp) (by simp) (by simp) (by simp)).tr (q7.mono (by simp) (by simp) (by simp) (by simp))).tr (u3.mono (by simp) (by simp) (by simp) (by simp))⟩
