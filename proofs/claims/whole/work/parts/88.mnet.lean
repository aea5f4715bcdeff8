/-! What a step of the reference leaves alone; nets; places. -/
def mX (ki kl ka kb : List Nat) (s s' : mS) : Prop := (∀ k, k ∉ ki → s'.1 k = s.1 k) ∧ (∀ k, k ∉ kl → s'.2.1 k = s.2.1 k) ∧ (∀ a, a ∉ ka → s'.2.2.1 a = s.2.2.1 a) ∧ (∀ a, a ∉ kb → s'.2.2.2 a = s.2.2.2 a)
theorem mX.rf {ki kl ka kb : List Nat} {s : mS} : mX ki kl ka kb s s := ⟨fun _ _ => rfl, fun _ _ => rfl, fun _ _ => rfl, fun _ _ => rfl⟩
theorem mX.tr {ki kl ka kb : List Nat} {s s1 s2 : mS} (h1 : mX ki kl ka kb s s1) (h2 : mX ki kl ka kb s1 s2) : mX ki kl ka kb s s2 := ⟨fun k h => (h2.1 k h).trans (h1.1 k h), fun k h => (h2.2.1 k h).trans (h1.2.1 k h), fun k h => (h2.2.2.1 k h).trans (h1.2.2.1 k h), fun k h => (h2.2.2.2 k h).trans (h1.2.2.2 k h)⟩
theorem mX.I {ki kl ka kb : List Nat} {s s' : mS} (h : mX ki kl ka kb s s') {k : Nat} {v : Int32} (hk : k ∈ ki) : mX ki kl ka kb s (mI s' k v) := ⟨fun j hj => (show va_up s'.1 k v j = s.1 j from (if_neg (fun q => hj (by rw [q]; exact hk))).trans (h.1 j hj)), h.2.1, h.2.2.1, h.2.2.2⟩
theorem mX.L {ki kl ka kb : List Nat} {s s' : mS} (h : mX ki kl ka kb s s') {k : Nat} {v : Int64} (hk : k ∈ kl) : mX ki kl ka kb s (mL s' k v) := ⟨h.1, fun j hj => (show va_up s'.2.1 k v j = s.2.1 j from (if_neg (fun q => hj (by rw [q]; exact hk))).trans (h.2.1 j hj)), h.2.2.1, h.2.2.2⟩
theorem mX.A {ki kl ka kb : List Nat} {s s' : mS} (h : mX ki kl ka kb s s') {a j : Nat} {v : Int32} (hk : a ∈ ka) : mX ki kl ka kb s (mA s' a j v) := ⟨h.1, h.2.1, fun x hx => (show va_up s'.2.2.1 a (upd (s'.2.2.1 a) j v) x = s.2.2.1 x from (if_neg (fun q => hx (by rw [q]; exact hk))).trans (h.2.2.1 x hx)), h.2.2.2⟩
theorem mX.B {ki kl ka kb : List Nat} {s s' : mS} (h : mX ki kl ka kb s s') {a j : Nat} {v : Int64} (hk : a ∈ kb) : mX ki kl ka kb s (mB s' a j v) := ⟨h.1, h.2.1, h.2.2.1, fun x hx => (show va_up s'.2.2.2 a (vp_updL (s'.2.2.2 a) j v) x = s.2.2.2 x from (if_neg (fun q => hx (by rw [q]; exact hk))).trans (h.2.2.2 x hx))⟩
theorem mX.mono {ki kl ka kb ki' kl' ka' kb' : List Nat} {s s' : mS} (h : mX ki kl ka kb s s') (h1 : ∀ k ∈ ki, k ∈ ki') (h2 : ∀ k ∈ kl, k ∈ kl') (h3 : ∀ k ∈ ka, k ∈ ka') (h4 : ∀ k ∈ kb, k ∈ kb') : mX ki' kl' ka' kb' s s' := ⟨fun k hk => h.1 k (fun q => hk (h1 k q)), fun k hk => h.2.1 k (fun q => hk (h2 k q)), fun k hk => h.2.2.1 k (fun q => hk (h3 k q)), fun k hk => h.2.2.2 k (fun q => hk (h4 k q))⟩
theorem mX.eA {ki kl ka kb : List Nat} {s s' : mS} (h : mX ki kl ka kb s s') (a : Nat) (ha : a ∉ ka) (j : Nat) : s'.2.2.1 a j = s.2.2.1 a j := by rw [h.2.2.1 a ha]
theorem mX.eB {ki kl ka kb : List Nat} {s s' : mS} (h : mX ki kl ka kb s s') (a : Nat) (ha : a ∉ kb) (j : Nat) : s'.2.2.2 a j = s.2.2.2 a j := by rw [h.2.2.2 a ha]
theorem MB.x {ki kl ka kb : List Nat} {s s' : mS} {z : Z} (hM : MB s z) (h : mX ki kl ka kb s s') (h1 : 10 ∉ ki ∧ 15 ∉ ki ∧ 16 ∉ ki ∧ 25 ∉ ki) (h2 : 28 ∉ ka ∧ 30 ∉ ka ∧ 36 ∉ ka) (h3 : 26 ∉ kb ∧ 27 ∉ kb ∧ 29 ∉ kb ∧ 31 ∉ kb ∧ 32 ∉ kb ∧ 33 ∉ kb ∧ 34 ∉ kb ∧ 35 ∉ kb ∧ 37 ∉ kb ∧ 38 ∉ kb) : MB s' z := by
  obtain ⟨a1, a2, a3, a4⟩ := h1
  obtain ⟨b1, b2, b3⟩ := h2
  obtain ⟨c1, c2, c3, c4, c5, c6, c7, c8, c9, c10⟩ := h3
  refine ⟨(h.1 _ a1).trans hM.mem, fun k c q => (h.eB _ c1 k).trans (hM.cod k c q), (h.1 _ a2).trans hM.asn, fun k x q => ?_, (h.1 _ a3).trans hM.fir, fun P q => (h.eB _ c4 P).trans (hM.pos P q), fun P q => (h.eB _ c5 P).trans (hM.pl P q), fun P q => (h.eB _ c6 P).trans (hM.beg P q), fun P q => (h.eB _ c7 P).trans (hM.wnt P q), fun P q => (h.eB _ c8 P).trans (hM.cam P q), fun P q => (h.eA _ b3 P).trans (hM.mv P q), fun P q => (h.eB _ c9 P).trans (hM.paid P q), fun P q => (h.eB _ c10 P).trans (hM.lim P q), (h.1 _ a4).trans hM.lims⟩
  obtain ⟨g1, g2, g3, g4⟩ := hM.asc k x q
  exact ⟨(h.eB _ c2 k).trans g1, (h.eA _ b1 k).trans g2, (h.eB _ c3 k).trans g3, (h.eA _ b2 k).trans g4⟩
theorem MI.x {ki kl ka kb : List Nat} {s s' : mS} {k : Nat} {i : Ins} (hM : MI s k i) (h : mX ki kl ka kb s s') (h2 : 43 ∉ ka ∧ 44 ∉ ka ∧ 45 ∉ ka ∧ 48 ∉ ka ∧ 50 ∉ ka ∧ 51 ∉ ka ∧ 52 ∉ ka ∧ 54 ∉ ka) (h3 : 46 ∉ kb ∧ 47 ∉ kb ∧ 53 ∉ kb) : MI s' k i := by
  obtain ⟨b1, b2, b3, b4, b5, b6, b7, b8⟩ := h2
  obtain ⟨c1, c2, c3⟩ := h3
  refine ⟨(h.eA _ b1 k).trans hM.who, (h.eA _ b2 k).trans hM.pr, (h.eA _ b3 k).trans hM.len, (h.eB _ c1 k).trans hM.nm, (h.eB _ c2 k).trans hM.tn, (h.eA _ b4 k).trans hM.wt, fun j l q => ?_⟩
  obtain ⟨g1, g2, g3, g4, g5⟩ := hM.lg j l q
  exact ⟨(h.eA _ b5 _).trans g1, (h.eA _ b6 _).trans g2, (h.eA _ b7 _).trans g3, (h.eB _ c3 _).trans g4, (h.eA _ b8 _).trans g5⟩
theorem MQu.x {ki kl ka kb : List Nat} {s s' : mS} {z : Z} (hM : MQu s z) (h : mX ki kl ka kb s s') (h1 : 31 ∉ ki) (h0 : 45 ∉ kl) (h2 : 43 ∉ ka ∧ 44 ∉ ka ∧ 45 ∉ ka ∧ 48 ∉ ka ∧ 50 ∉ ka ∧ 51 ∉ ka ∧ 52 ∉ ka ∧ 54 ∉ ka) (h3 : 46 ∉ kb ∧ 47 ∉ kb ∧ 53 ∉ kb) : MQu s' z := ⟨(h.1 _ h1).trans hM.many, fun k i q => (hM.ins k i q).x h h2 h3, (h.2.1 _ h0).trans hM.turns⟩
/-! nets -/
theorem netL_snoc (fc : Option Nat) (P : Nat) (ls : List Leg) (l : Leg) : netL fc P (ls ++ [l]) = netL fc P ls + legN fc P l := by
  unfold netL
  rw [List.foldl_append]; rfl
theorem take_snoc {α : Type} {ls : List α} {j : Nat} {l : α} (h : ls[j]? = some l) : ls.take (j + 1) = ls.take j ++ [l] := by
  rw [List.take_add_one, h]; rfl
def okX (z : Z) : Prop := (z.mem.length ≤ 256) ∧ (z.ast.length ≤ 64) ∧ (∀ a, z.fc = some a → a < z.ast.length)
theorem okX.mem {z : Z} (h : okX z) : z.mem.length ≤ 256 := h.1
theorem okX.ast {z : Z} (h : okX z) : z.ast.length ≤ 64 := h.2.1
theorem okX.fc {z : Z} (h : okX z) : ∀ a, z.fc = some a → a < z.ast.length := h.2.2
theorem okZ.x {n : Nat} {z : Z} (h : okZ n z) : okX z := ⟨h.mem.2, h.ast, fun a q => (h.fc a q).1⟩
theorem d_net_loop {s : mS} {z : Z} (hB : MB s z) (hX : okX z) {k : Nat} {i : Ins} (hI : MI s k i) (hk : k < 250) (hok : ∀ l ∈ i.legs, okL z l) (hlen : i.legs.length ≤ 4) {P : Nat} (hP : P < 81920) : ∀ (d fu j : Nat), i.legs.length - j = d → d < fu → j ≤ i.legs.length → l_Mo_net_7 fu (nI k) (nI P) (lI (netL z.fc P (i.legs.take j))) (nI (4 * k + j)) s = some (lI (netL z.fc P i.legs)) := by
  have hx1 := hX.mem
  have hx2 := hX.ast
  intro d
  induction d with
  | zero =>
    intro fu j hj hf hle
    obtain ⟨fu, rfl⟩ : ∃ m, fu = m + 1 := ⟨fu - 1, by omega⟩
    unfold l_Mo_net_7
    rw [ixI hk (by omega), Option.bind_some, hI.len, show (4 : Int32) * nI k + nI i.legs.length = nI (4 * k + i.legs.length) by rw [show (4 : Int32) = nI 4 from rfl, nI_mul, nI_add'], if_pos ((nI_le' (by omega) (by omega)).mpr (by omega)), List.take_of_length_le (by omega)]
  | succ d ih =>
    intro fu j hj hf hle
    obtain ⟨fu, rfl⟩ : ∃ m, fu = m + 1 := ⟨fu - 1, by omega⟩
    obtain ⟨l, hl⟩ : ∃ l, i.legs[j]? = some l := ⟨_, List.getElem?_eq_getElem (show j < i.legs.length by omega)⟩
    obtain ⟨g1, g2, g3, g4, g5⟩ := hI.lg j l hl
    obtain ⟨o1, o2, o3, o4, o5, o6, o7, o8⟩ := hok l (List.mem_of_getElem? hl)
    unfold l_Mo_net_7
    rw [ixI hk (by omega), Option.bind_some, hI.len, show (4 : Int32) * nI k + nI i.legs.length = nI (4 * k + i.legs.length) by rw [show (4 : Int32) = nI 4 from rfl, nI_mul, nI_add'], if_neg (fun q => by have := (nI_le' (by omega) (by omega)).mp q; omega), ixI (show 4 * k + j < 1000 by omega) (by omega), Option.bind_some, g1, g2, g3, g4, nI_add1]
    have hnext := ih fu (j + 1) (by omega) (by omega) (by omega)
    rw [take_snoc hl, netL_snoc] at hnext
    have key : ∀ u : Int64, u = lI (legN z.fc P l) → (some (lI (netL z.fc P (i.legs.take j)) + u)).bind (fun u8 => l_Mo_net_7 fu (nI k) (nI P) u8 (nI (4 * k + j + 1)) s) = some (lI (netL z.fc P i.legs)) := by
      intro u hu
      rw [hu, Option.bind_some, lI_add]; exact hnext
    have key0 : legN z.fc P l = 0 → (some (lI (netL z.fc P (i.legs.take j)))).bind (fun u8 => l_Mo_net_7 fu (nI k) (nI P) u8 (nI (4 * k + j + 1)) s) = some (lI (netL z.fc P i.legs)) := by
      intro h0
      rw [h0, Int.add_zero] at hnext
      exact hnext
    have e64 : nI P - nI P / 64 * 64 = nI (P % 64) := by
      rw [show (64 : Int32) = nI 64 from rfl, nI_div' (by omega) (by omega) (by omega), nI_mul, nI_sub' (by omega)]
      exact congrArg nI (by omega)
    have e64' : nI P / 64 = nI (P / 64) := by rw [show (64 : Int32) = nI 64 from rfl, nI_div' (by omega) (by omega) (by omega)]
    by_cases hp : P < 16384
    · rw [if_neg (fun q => by have := (nI_le' (a := 16384) (by omega) (by omega)).mp q; omega), e64, e64']
      by_cases h1 : l.a = P % 64
      · rw [if_neg (fun q => q (by rw [h1]))]
        by_cases h2 : l.t = P / 64
        · rw [if_neg (fun q => q (by rw [h2])), Option.bind_some]
          exact key _ (by unfold legN; rw [if_pos hp, if_pos h1, if_pos h2])
        · rw [if_pos (fun q => h2 (nI_inj (by omega) (by omega) q))]
          by_cases h3 : l.f = P / 64
          · rw [if_neg (fun q => q (by rw [h3])), Option.bind_some]
            exact key _ (by unfold legN; rw [if_pos hp, if_pos h1, if_neg h2, if_pos h3, lI_neg])
          · rw [if_pos (fun q => h3 (nI_inj (by omega) (by omega) q)), Option.bind_some]
            exact key _ (by unfold legN; rw [if_pos hp, if_pos h1, if_neg h2, if_neg h3]; rfl)
      · rw [if_pos (fun q => h1 (nI_inj (by omega) (by omega) q))]
        exact key0 (by unfold legN; rw [if_pos hp, if_neg h1])
    · have er : nI P - 16384 = nI (P - 16384) := by rw [show (16384 : Int32) = nI 16384 from rfl, nI_sub' (by omega)]
      have er1 : nI (P - 16384) / 256 = nI ((P - 16384) / 256) := by rw [show (256 : Int32) = nI 256 from rfl, nI_div' (by omega) (by omega) (by omega)]
      have er2 : nI (P - 16384) - nI ((P - 16384) / 256) * 256 = nI ((P - 16384) % 256) := by
        rw [show (256 : Int32) = nI 256 from rfl, nI_mul, nI_sub' (by omega)]
        exact congrArg nI (by omega)
      rw [if_pos (show (16384 : Int32) ≤ nI P from (nI_le' (a := 16384) (by omega) (by omega)).mpr (by omega)), er, er1, er2, hB.fir]
      have ho := oI_eq (z := z) (a := l.a) (fun b hb => by have := hX.fc b hb; omega) (by omega)
      by_cases h1 : some l.a = z.fc
      · rw [if_neg (fun q => q (ho.mpr h1))]
        generalize hp1 : (P - 16384) / 256 = p1 at *
        generalize hq1 : (P - 16384) % 256 = q1 at *
        have eL : legN z.fc P l = (if l.f = p1 ∧ l.t = q1 then -(l.v : Int) else if l.f = q1 ∧ l.t = p1 then (l.v : Int) else 0) := by
          unfold legN; rw [if_neg hp, if_pos h1, hp1, hq1]
        have b1 : p1 < 2147483648 := by omega
        have b2 : q1 < 2147483648 := by omega
        have c1 := nI_eq1 (a := l.f) (b := p1) (by omega) b1
        have c2 := nI_eq1 (a := l.f) (b := q1) (by omega) b2
        have c3 := nI_eq1 (a := l.t) (b := p1) (by omega) b1
        have c4 := nI_eq1 (a := l.t) (b := q1) (by omega) b2
        simp only [c1, c2, c3, c4]
        by_cases d1 : l.f = p1
        · rw [if_neg (fun q => q d1)]
          by_cases d4 : l.t = q1
          · rw [if_neg (fun q => q d4), Option.bind_some]
            exact key _ (by rw [eL, if_pos ⟨d1, d4⟩, lI_neg])
          · rw [if_pos d4]
            have hn : ¬ (l.f = p1 ∧ l.t = q1) := fun q => d4 q.2
            by_cases d2 : l.f = q1
            · rw [if_neg (fun q => q d2)]
              by_cases d3 : l.t = p1
              · rw [if_neg (fun q => q d3), Option.bind_some]
                exact key _ (by rw [eL, if_neg hn, if_pos ⟨d2, d3⟩])
              · rw [if_pos d3, Option.bind_some]
                exact key _ (by rw [eL, if_neg hn, if_neg (fun q => d3 q.2)]; rfl)
            · rw [if_pos d2, Option.bind_some]
              exact key _ (by rw [eL, if_neg hn, if_neg (fun q => d2 q.1)]; rfl)
        · rw [if_pos d1]
          have hn : ¬ (l.f = p1 ∧ l.t = q1) := fun q => d1 q.1
          by_cases d2 : l.f = q1
          · rw [if_neg (fun q => q d2)]
            by_cases d3 : l.t = p1
            · rw [if_neg (fun q => q d3), Option.bind_some]
              exact key _ (by rw [eL, if_neg hn, if_pos ⟨d2, d3⟩])
            · rw [if_pos d3, Option.bind_some]
              exact key _ (by rw [eL, if_neg hn, if_neg (fun q => d3 q.2)]; rfl)
          · rw [if_pos d2, Option.bind_some]
            exact key _ (by rw [eL, if_neg hn, if_neg (fun q => d2 q.1)]; rfl)
      · rw [if_pos (fun q => h1 (ho.mp q))]
        exact key0 (by unfold legN; rw [if_neg hp, if_neg h1])
theorem d_net {s : mS} {z : Z} (hB : MB s z) (hX : okX z) {k : Nat} {i : Ins} (hI : MI s k i) (hk : k < 250) (hok : ∀ l ∈ i.legs, okL z l) (hlen : i.legs.length ≤ 4) {P : Nat} (hP : P < 81920) : d_Mo_net (nI k) (nI P) s = some (lI (i.net z.fc P)) := by
  unfold d_Mo_net
  rw [show (4 : Int32) * nI k = nI (4 * k + 0) by rw [show (4 : Int32) = nI 4 from rfl, nI_mul]; rfl, show (0 : Int64) = lI (netL z.fc P (i.legs.take 0)) from rfl, d_net_loop hB hX hI hk hok hlen hP _ 100000 0 rfl (by omega) (by omega)]
  rfl
