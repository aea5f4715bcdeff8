/-! The reference settles all that can. -/
abbrev kI : List Nat := [7, 31, 32, 48, 54]
abbrev kA : List Nat := [25, 36, 43, 44, 45, 48, 49, 50, 51, 52, 54, 55, 56, 57, 58]
abbrev kB : List Nat := [31, 34, 35, 37, 46, 47, 53, 59]
/-- the reference's state is a picture of z, its answer is bs -/
def RS (s : mS) (z : Z) (bs : List Int32) : Prop := (MB s z) ∧ (MQu s z) ∧ (M0 s) ∧ (AN s bs)
theorem RS.B {s : mS} {z : Z} {bs : List Int32} (h : RS s z bs) : MB s z := h.1
theorem RS.Q {s : mS} {z : Z} {bs : List Int32} (h : RS s z bs) : MQu s z := h.2.1
theorem RS.m0 {s : mS} {z : Z} {bs : List Int32} (h : RS s z bs) : M0 s := h.2.2.1
theorem RS.A {s : mS} {z : Z} {bs : List Int32} (h : RS s z bs) : AN s bs := h.2.2.2
/-- the flag that tells whether the wanted one was among the settled -/
def FL (s s' : mS) (b b' : Bool) (es : List Ins) : Prop := s'.1 54 = b2i b' ∧ ∀ w nm, ST s w nm → w < 256 → nm.length = 8 → is36 nm → b' = (b || es.any fun i => decide (i.who = w ∧ i.nm = nm))
def evs (z : Z) (es : List Ins) : List Int32 := (es.map (evB z 83)).flatten
theorem okX.lim {n : Nat} {z : Z} (h : okZ n z) (k : Nat) : inL (z.lim k) := by have := h.lim k; omega
theorem evB_mem {z z' : Z} (h : z'.mem = z.mem) (c : Nat) (i : Ins) : evB z' c i = evB z c i := by unfold evB; rw [h]
theorem at_lt {z : Z} {o : List Nat} (h : isO z z.ins.length o) {k : Nat} (hk : k ∈ o) : k < z.ins.length := ((h.mem k).mp hk).1
theorem d_settle1 {n : Nat} {s : mS} {z : Z} {bs : List Int32} (hn : n ≤ 512) (hR : RS s z bs) (hO : okZ n z) {k : Nat} (hk : k < z.ins.length) {b : Bool} (hb : s.1 54 = b2i b) (hl : bs.length + 14 < 32768) : ∃ s1 s2 b', d_Mo_done (nI k) s = some s1 ∧ d_Mo_drop (nI k) s1 = some s2 ∧ RS s2 (z.stl (z.at k)) (bs ++ evB z 83 (z.at k)) ∧ FL s s2 b b' [z.at k] ∧ mX kI [] kA kB s s2 := by
  have hil := hO.ins
  have hi := at_mem hk
  have hok := hO.oki _ hi
  obtain ⟨s1, b', e1, B1, A1, q54, fl, x1⟩ := d_done hO.x hO.cod (fun k => okX.lim hO k) hR.B (hR.Q.ins k _ (at_some hk)) hok (by omega) hR.A hl hb
  have Q1 : MQu s1 z := hR.Q.x x1 (by decide) (by decide) (by decide) (by decide)
  obtain ⟨s2, e2, Q2, -, x2⟩ := d_drop Q1 hil (fun i h => (hO.oki i h).len.2) hk
  have he := erase_filter hO.unq (at_some hk)
  refine ⟨s1, s2, b', e1, e2, ⟨?_, ?_, ?_, ?_⟩, ⟨(x2.1 54 (by decide)).trans q54, fun w nm a1 a2 a3 a4 => ?_⟩, (x1.mono (by decide) (by decide) (by decide) (by decide)).tr (x2.mono (by decide) (by decide) (by decide) (by decide))⟩
  · have := B1.x x2 (by decide) (by decide) (by decide)
    exact this.eqv rfl rfl rfl rfl (fun _ _ => rfl) (fun _ _ => rfl) (fun _ _ => rfl) (fun _ _ => rfl) (fun _ _ => rfl) (fun _ _ => rfl) (fun _ _ => rfl) (fun _ _ => rfl)
  · rw [he] at Q2
    exact ⟨Q2.many, Q2.ins, Q2.turns⟩
  · exact (hR.m0.x x1 (by decide) (by decide) (by decide)).x x2 (by decide) (by decide) (by decide)
  · exact A1.x x2 (by decide) (by decide)
  · rw [fl w nm a1 a2 a3 a4, List.any_cons, List.any_nil, Bool.or_false]
theorem FL.cons {s s1 s2 : mS} {b b1 b2 : Bool} {i : Ins} {es : List Ins} {ka kb : List Nat} (h1 : FL s s1 b b1 [i]) (h2 : FL s1 s2 b1 b2 es) (x : mX kI [] ka kb s s1) : FL s s2 b b2 (i :: es) := by
  refine ⟨h2.1, fun w nm a1 a2 a3 a4 => ?_⟩
  have e1 := h1.2 w nm a1 a2 a3 a4
  have e2 := h2.2 w nm ⟨(x.1 53 (by decide)).trans a1.1, (x.2.1 52 (by simp)).trans a1.2⟩ a2 a3 a4
  rw [e2, e1, List.any_cons, List.any_nil, List.any_cons, Bool.or_false, Bool.or_assoc]
theorem d_settle_loop {n : Nat} (hn : n ≤ 512) : ∀ (m fu c : Nat) (s : mS) (z : Z) (bs : List Int32) (o q : List Nat) (r : Int32) (b : Bool), RS s z bs → okZ n z → good z → isO z z.ins.length o → isF z o r (z.fst (fun _ => false) (o.map z.at)) → s.1 54 = b2i b → bs.length + 14 * z.ins.length + 14 < 32768 → 250 - c = m → m < fu → c ≤ 250 → o.length ≤ m → ∃ s' b', l_Mo_settle_7 fu r (nI c) s = some s' ∧ RS s' (setl m z (o.map z.at)).1 (bs ++ evs z (setl m z (o.map z.at)).2.2) ∧ okZ n (setl m z (o.map z.at)).1 ∧ good (setl m z (o.map z.at)).1 ∧ (setl m z (o.map z.at)).1.isq (setl m z (o.map z.at)).2.1 ∧ (setl m z (o.map z.at)).1.fst (fun _ => false) (setl m z (o.map z.at)).2.1 = none ∧ FL s s' b b' (setl m z (o.map z.at)).2.2 ∧ mX kI [] kA kB s s' := by
  intro m
  induction m with
  | zero =>
    intro fu c s z bs o q r b hR hO hG ho hF hb hl hm hf hc hol
    obtain ⟨fu, rfl⟩ : ∃ m, fu = m + 1 := ⟨fu - 1, by omega⟩
    unfold l_Mo_settle_7
    rw [if_pos (show (250 : Int32) ≤ nI c from (nI_le' (a := 250) (by omega) (by omega)).mpr (by omega))]
    have ho0 : o = [] := List.length_eq_zero_iff.mp (by omega)
    refine ⟨s, b, rfl, ?_, hO, hG, ho.q, ?_, ⟨hb, fun w nm _ _ _ _ => by simp [setl]⟩, mX.rf⟩
    · simpa [setl, evs] using hR
    · rw [ho0]; rfl
  | succ m ih =>
    intro fu c s z bs o q r b hR hO hG ho hF hb hl hm hf hc hol
    obtain ⟨fu, rfl⟩ : ∃ m, fu = m + 1 := ⟨fu - 1, by omega⟩
    unfold l_Mo_settle_7
    rw [if_neg (fun q => by have := (nI_le' (a := 250) (by omega) (by omega)).mp q; omega)]
    rcases hF with ⟨h1, h2⟩ | ⟨k, hk, h2, h1⟩
    · rw [h2, if_pos (by decide), setl_none h1]
      exact ⟨s, b, rfl, by simpa [evs] using hR, hO, hG, ho.q, h1, ⟨hb, fun w nm _ _ _ _ => by simp⟩, mX.rf⟩
    · have hkl := at_lt ho hk
      have hil := hO.ins
      rw [h2, if_neg (nI_neg1 (by omega))]
      obtain ⟨s1, s2, b1, e1, e2, R2, f2, x2⟩ := d_settle1 hn hR hO hkl hb (by omega)
      have O2 := hO.stl (at_mem hkl)
      obtain ⟨fm, m', fc⟩ := fst_mem h1
      have G2 := good.stl hO hG (at_mem hkl) fc
      obtain ⟨r3, s3, o3, e3, ho3, hF3, m3, x3⟩ := d_first (O2.c hn) O2.x (O2.f hn) O2.q hn R2.B R2.Q R2.m0
      rw [e1, Option.bind_some, e2, Option.bind_some, d_check R2.B O2 hn G2, Option.bind_some, e3, Option.bind_some, nI_add1]
      have hq3 : o3.map (z.stl (z.at k)).at = (o.map z.at).filter fun j => !(sameK (z.at k) j) := isq.un ho3.q (isq.del ho.q _)
      have hl3 : o3.length ≤ m := by
        have h4 := filter_lt (List.mem_map_of_mem (f := z.at) hk)
        rw [← hq3, List.length_map, List.length_map] at h4
        omega
      have hlen : (z.stl (z.at k)).ins.length + 1 ≤ z.ins.length := by
        have := filter_lt (at_mem hkl)
        show (z.ins.filter _).length + 1 ≤ _
        omega
      have R3 : RS s3 (z.stl (z.at k)) (bs ++ evB z 83 (z.at k)) := ⟨R2.B.x x3 (by decide) (by decide) (by decide), R2.Q.x x3 (by decide) (by decide) (by decide) (by decide), m3, R2.A.x x3 (by decide) (by decide)⟩
      have x3' : mX kI [] kA kB s2 s3 := x3.mono (by decide) (by decide) (by decide) (by decide)
      obtain ⟨s', b', r1, r2, r3', r4, r5, r6, r7, r8⟩ := ih fu (c + 1) s3 _ _ o3 q r3 b1 R3 O2 G2 ho3 hF3 ((x3.1 54 (by decide)).trans f2.1) (by
        rw [List.length_append, evB_len hO.cod (hO.oki _ (at_mem hkl))]; omega) (by omega) (by omega) (by omega) hl3
      rw [hq3] at r2 r3' r4 r5 r6 r7
      rw [setl_some h1]
      refine ⟨s', b', r1, ?_, r3', r4, r5, r6, ?_, (x2.tr x3').tr r8⟩
      · have : evs (z.stl (z.at k)) (setl m (z.stl (z.at k)) ((o.map z.at).filter fun j => !(sameK (z.at k) j))).2.2 = evs z (setl m (z.stl (z.at k)) ((o.map z.at).filter fun j => !(sameK (z.at k) j))).2.2 := rfl
        rw [this, List.append_assoc] at r2
        exact r2
      · refine FL.cons (s1 := s3) ⟨(x3.1 54 (by decide)).trans f2.1, f2.2⟩ r7 (x2.tr x3')
theorem d_settle {n : Nat} (hn : n ≤ 512) {s : mS} {z : Z} {bs : List Int32} {q : List Ins} (hR : RS s z bs) (hO : okZ n z) (hG : good z) (hq : z.isq q) {b : Bool} (hb : s.1 54 = b2i b) (hl : bs.length + 14 * z.ins.length + 14 < 32768) : ∃ s' b', d_Mo_settle s = some s' ∧ RS s' (setl 250 z q).1 (bs ++ evs z (setl 250 z q).2.2) ∧ okZ n (setl 250 z q).1 ∧ good (setl 250 z q).1 ∧ (setl 250 z q).1.isq (setl 250 z q).2.1 ∧ (setl 250 z q).1.fst (fun _ => false) (setl 250 z q).2.1 = none ∧ FL s s' b b' (setl 250 z q).2.2 ∧ mX kI [] kA kB s s' := by
  obtain ⟨r, s1, o, e1, ho, hF, m1, x1⟩ := d_first (hO.c hn) hO.x (hO.f hn) hO.q hn hR.B hR.Q hR.m0
  have R1 : RS s1 z bs := ⟨hR.B.x x1 (by decide) (by decide) (by decide), hR.Q.x x1 (by decide) (by decide) (by decide) (by decide), m1, hR.A.x x1 (by decide) (by decide)⟩
  have hol := ho.len
  have hil := hO.ins
  obtain ⟨s', b', r1, r2, r3, r4, r5, r6, r7, r8⟩ := d_settle_loop hn 250 100000 0 s1 z bs o o r b R1 hO hG ho hF ((x1.1 54 (by decide)).trans hb) hl rfl (by omega) (by omega) (by omega)
  rw [isq.un ho.q hq] at r2 r3 r4 r5 r6 r7
  unfold d_Mo_settle
  rw [e1, Option.bind_some]
  simp only []
  rw [show l_Mo_settle_7 100000 r 0 s1 = some s' from r1, Option.bind_some]
  refine ⟨s', b', rfl, r2, r3, r4, r5, r6, ⟨r7.1, fun w nm a1 a2 a3 a4 => r7.2 w nm ⟨(x1.1 53 (by decide)).trans a1.1, (x1.2.1 52 (by simp)).trans a1.2⟩ a2 a3 a4⟩, (x1.mono (by decide) (by decide) (by decide) (by decide)).tr r8⟩
