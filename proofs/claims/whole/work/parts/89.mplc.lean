/-! The places of an instruction, as the reference notes them. -/
def addK (ks : List Nat) (P : Nat) : List Nat := if P ∈ ks then ks else ks ++ [P]
theorem mem_addK {ks : List Nat} {P Q : Nat} : Q ∈ addK ks P ↔ Q ∈ ks ∨ Q = P := by
  unfold addK
  split
  · constructor
    · intro h; exact Or.inl h
    · rintro (h | h)
      · exact h
      · rw [h]; assumption
  · simp
theorem nodup_addK {ks : List Nat} {P : Nat} (h : ks.Nodup) : (addK ks P).Nodup := by
  unfold addK
  split
  · exact h
  · rename_i hn
    rw [List.nodup_append]
    refine ⟨h, by simp, ?_⟩
    intro a ha b hb
    rw [List.mem_singleton] at hb
    intro q
    exact hn (by rw [← hb, ← q]; exact ha)
theorem len_addK (ks : List Nat) (P : Nat) : (addK ks P).length ≤ ks.length + 1 := by
  unfold addK
  split
  · omega
  · rw [List.length_append]; exact Nat.le_refl _
def KS (s : mS) (ks : List Nat) : Prop := ∀ (j P : Nat), ks[j]? = some P → s.2.2.1 57 j = nI P
theorem mA_get (s : mS) (a j : Nat) (v : Int32) (b i : Nat) : (mA s a j v).2.2.1 b i = if b = a then (if i = j then v else s.2.2.1 b i) else s.2.2.1 b i := by
  show va_up s.2.2.1 a (upd (s.2.2.1 a) j v) b i = _
  unfold va_up
  by_cases h : b = a
  · rw [if_pos h, if_pos h, h]; rfl
  · rw [if_neg h, if_neg h]
theorem mB_get (s : mS) (a j : Nat) (v : Int64) (b i : Nat) : (mB s a j v).2.2.2 b i = if b = a then (if i = j then v else s.2.2.2 b i) else s.2.2.2 b i := by
  show va_up s.2.2.2 a (vp_updL (s.2.2.2 a) j v) b i = _
  unfold va_up
  by_cases h : b = a
  · rw [if_pos h, if_pos h, h]; rfl
  · rw [if_neg h, if_neg h]
theorem d_noted_loop {s : mS} {ks : List Nat} (hK : KS s ks) (hb : ∀ Q ∈ ks, Q < 2147483648) (hl : ks.length ≤ 15) {P : Nat} (hP : P < 2147483648) : ∀ (d fu j : Nat), ks.length - j = d → d < fu → j ≤ ks.length → P ∉ ks.take j → l_Mo_noted_2 fu (nI ks.length) (nI P) (nI j) s = if P ∈ ks then some (nI ks.length, s) else some (nI (ks.length + 1), mA s 57 ks.length (nI P)) := by
  intro d
  induction d with
  | zero =>
    intro fu j hj hf hle hn
    obtain ⟨fu, rfl⟩ : ∃ m, fu = m + 1 := ⟨fu - 1, by omega⟩
    unfold l_Mo_noted_2
    rw [List.take_of_length_le (by omega)] at hn
    rw [if_pos ((nI_le' (by omega) (by omega)).mpr (by omega)), if_neg hn, ixI (show ks.length < 16 by omega) (by omega), Option.bind_some, nI_add1]
  | succ d ih =>
    intro fu j hj hf hle hn
    obtain ⟨fu, rfl⟩ : ∃ m, fu = m + 1 := ⟨fu - 1, by omega⟩
    obtain ⟨Q, hQ⟩ : ∃ Q, ks[j]? = some Q := ⟨_, List.getElem?_eq_getElem (show j < ks.length by omega)⟩
    have hm := List.mem_of_getElem? hQ
    unfold l_Mo_noted_2
    rw [if_neg (fun q => by have := (nI_le' (by omega) (by omega)).mp q; omega), ixI (show j < 16 by omega) (by omega), Option.bind_some, hK j Q hQ]
    by_cases hq : Q = P
    · rw [if_neg (fun q => q (by rw [hq])), if_pos (hq ▸ hm)]
    · rw [if_pos (fun q => hq (nI_inj (hb Q hm) hP q)), nI_add1]
      refine ih fu (j + 1) (by omega) (by omega) (by omega) ?_
      rw [take_snoc hQ, List.mem_append, List.mem_singleton]
      rintro (h | h)
      · exact hn h
      · exact hq h.symm
theorem d_noted {s : mS} {ks : List Nat} (hK : KS s ks) (hb : ∀ Q ∈ ks, Q < 2147483648) (hl : ks.length ≤ 15) {P : Nat} (hP : P < 2147483648) : ∃ s', d_Mo_noted (nI ks.length) (nI P) s = some (nI (addK ks P).length, s') ∧ KS s' (addK ks P) ∧ mX [] [] [57] [] s s' := by
  unfold d_Mo_noted
  rw [show (0 : Int32) = nI 0 from rfl, d_noted_loop hK hb hl hP _ 100000 0 rfl (by omega) (by omega) (by simp)]
  unfold addK
  by_cases h : P ∈ ks
  · rw [if_pos h, if_pos h]; exact ⟨s, rfl, hK, mX.rf⟩
  · rw [if_neg h, if_neg h]
    refine ⟨mA s 57 ks.length (nI P), by rw [List.length_append]; rfl, ?_, mX.rf.A (by decide)⟩
    intro j Q hQ
    rw [mA_get, if_pos rfl]
    by_cases hj : j = ks.length
    · rw [if_pos hj]
      rw [hj, List.getElem?_append_right (Nat.le_refl _), Nat.sub_self] at hQ
      cases hQ; rfl
    · rw [if_neg hj]
      have : j < (ks ++ [P]).length := (List.getElem?_eq_some_iff.mp hQ).1
      rw [List.length_append, List.length_singleton] at this
      rw [List.getElem?_append_left (by omega)] at hQ
      exact hK j Q hQ
/-- the keys of an instruction: its places that have a floor -/
def isK (z : Z) (ls : List Leg) (ks : List Nat) : Prop := (ks.Nodup) ∧ (∀ P, P ∈ ks ↔ P ∈ ls.flatMap (legP z.fc) ∧ z.fld P = true)
theorem isK.nd {z : Z} {ls : List Leg} {ks : List Nat} (h : isK z ls ks) : ks.Nodup := h.1
theorem isK.mem {z : Z} {ls : List Leg} {ks : List Nat} (h : isK z ls ks) : ∀ P, P ∈ ks ↔ P ∈ ls.flatMap (legP z.fc) ∧ z.fld P = true := h.2
theorem legP_mem {fc : Option Nat} {l : Leg} {P : Nat} : P ∈ legP fc l ↔ P = 64 * l.f + l.a ∨ P = 64 * l.t + l.a ∨ (some l.a = fc ∧ (P = 16384 + (256 * l.f + l.t) ∨ P = 16384 + (256 * l.t + l.f))) := by
  unfold legP
  by_cases h : some l.a = fc
  · rw [if_pos h]; simp [h]
  · rw [if_neg h]; simp [h]
theorem legP_lt {z : Z} (hX : okX z) {l : Leg} (ho : okL z l) {P : Nat} (h : P ∈ legP z.fc l) : P < 81920 := by
  have h1 := hX.mem
  have h2 := hX.ast
  obtain ⟨o1, o2, o3, -, -, -, -, -⟩ := ho
  rcases legP_mem.mp h with h | h | ⟨-, h | h⟩ <;> omega
theorem fld_acc {z : Z} {l P : Nat} (h : 0 < l) (h2 : l < 256) {a : Nat} (h3 : a < 64) : z.fld (64 * l + a) = true := by
  unfold Z.fld
  rw [if_pos (by omega)]
  exact decide_eq_true (by omega)
theorem fld_room {z : Z} (k : Nat) : z.fld (16384 + k) = decide (0 ≤ z.lim k) := by
  unfold Z.fld
  rw [if_neg (by omega), Nat.add_sub_cancel_left]
theorem d_places_loop {z : Z} (hX : okX z) (hlim : ∀ k, inL (z.lim k)) {k : Nat} {i : Ins} (hk : k < 250) (hok : ∀ l ∈ i.legs, okL z l) (hlen : i.legs.length ≤ 4) : ∀ (d fu j : Nat) (s : mS) (ks : List Nat), MB s z → MI s k i → i.legs.length - j = d → d < fu → j ≤ i.legs.length → KS s ks → isK z (i.legs.take j) ks → ks.length ≤ 4 * j → ∃ ks' s', l_Mo_places_6 fu (nI k) (nI ks.length) (nI (4 * k + j)) s = some (nI ks'.length, s') ∧ KS s' ks' ∧ isK z i.legs ks' ∧ ks'.length ≤ 4 * i.legs.length ∧ mX [] [] [57] [] s s' := by
  have hx1 := hX.mem
  have hx2 := hX.ast
  intro d
  induction d with
  | zero =>
    intro fu j s ks hB hI hj hf hle hK hk1 hk2
    obtain ⟨fu, rfl⟩ : ∃ m, fu = m + 1 := ⟨fu - 1, by omega⟩
    unfold l_Mo_places_6
    rw [ixI hk (by omega), Option.bind_some, hI.len, show (4 : Int32) * nI k + nI i.legs.length = nI (4 * k + i.legs.length) by rw [show (4 : Int32) = nI 4 from rfl, nI_mul, nI_add'], if_pos ((nI_le' (by omega) (by omega)).mpr (by omega))]
    rw [List.take_of_length_le (by omega)] at hk1
    exact ⟨ks, s, rfl, hK, hk1, by omega, mX.rf⟩
  | succ d ih =>
    intro fu j s ks hB hI hj hf hle hK hk1 hk2
    obtain ⟨fu, rfl⟩ : ∃ m, fu = m + 1 := ⟨fu - 1, by omega⟩
    obtain ⟨l, hl⟩ : ∃ l, i.legs[j]? = some l := ⟨_, List.getElem?_eq_getElem (show j < i.legs.length by omega)⟩
    obtain ⟨g1, g2, g3, g4, g5⟩ := hI.lg j l hl
    have hol := hok l (List.mem_of_getElem? hl)
    obtain ⟨o1, o2, o3, o4, o5, o6, o7, o8⟩ := hol
    have hbnd : ∀ (ks' : List Nat), (∀ P ∈ ks', P ∈ (i.legs.take (j + 1)).flatMap (legP z.fc)) → ∀ P ∈ ks', P < 2147483648 := by
      intro ks' h P hP
      obtain ⟨l', hl1, hl2⟩ := List.mem_flatMap.mp (h P hP)
      have := legP_lt hX (hok l' (List.mem_of_mem_take hl1)) hl2
      omega
    have hsub : ∀ P, P ∈ (i.legs.take j).flatMap (legP z.fc) → P ∈ (i.legs.take (j + 1)).flatMap (legP z.fc) := by
      intro P hP
      rw [take_snoc hl, List.flatMap_append, List.mem_append]
      exact Or.inl hP
    have hin : ∀ P, P ∈ legP z.fc l → P ∈ (i.legs.take (j + 1)).flatMap (legP z.fc) := by
      intro P hP
      rw [take_snoc hl, List.flatMap_append, List.mem_append]
      right
      rw [List.flatMap_cons, List.flatMap_nil, List.append_nil]
      exact hP
    unfold l_Mo_places_6
    rw [ixI hk (by omega), Option.bind_some, hI.len, show (4 : Int32) * nI k + nI i.legs.length = nI (4 * k + i.legs.length) by rw [show (4 : Int32) = nI 4 from rfl, nI_mul, nI_add'], if_neg (fun q => by have := (nI_le' (by omega) (by omega)).mp q; omega), ixI (show 4 * k + j < 1000 by omega) (by omega), Option.bind_some, g1, g3]
    have eP : ∀ p : Nat, (64 : Int32) * nI p + nI l.a = nI (64 * p + l.a) := fun p => by rw [show (64 : Int32) = nI 64 from rfl, nI_mul, nI_add']
    have eR : ∀ p q : Nat, (256 : Int32) * nI p + nI q = nI (256 * p + q) := fun p q => by rw [show (256 : Int32) = nI 256 from rfl, nI_mul, nI_add']
    have eR2 : ∀ p : Nat, (16384 : Int32) + nI p = nI (16384 + p) := fun p => by rw [show (16384 : Int32) = nI 16384 from rfl, nI_add']
    have m0 : ∀ P ∈ ks, P ∈ (i.legs.take (j + 1)).flatMap (legP z.fc) := fun P hP => hsub P ((hk1.mem P).mp hP).1
    obtain ⟨s1, e1, K1, x1⟩ := d_noted hK (hbnd ks m0) (by omega) (P := 64 * l.f + l.a) (by omega)
    rw [eP, e1, Option.bind_some, x1.eA 51 (by decide), x1.eA 52 (by decide), g2, g3, eP]
    have l1 := len_addK ks (64 * l.f + l.a)
    have m1 : ∀ P ∈ addK ks (64 * l.f + l.a), P ∈ (i.legs.take (j + 1)).flatMap (legP z.fc) := by
      intro P hP
      rcases mem_addK.mp hP with h | h
      · exact m0 P h
      · exact hin P (legP_mem.mpr (Or.inl h))
    generalize hk1' : addK ks (64 * l.f + l.a) = ks1 at *
    obtain ⟨s2, e2, K2, x2⟩ := d_noted K1 (hbnd ks1 m1) (by omega) (P := 64 * l.t + l.a) (by omega)
    have x12 := x1.tr x2
    rw [e2, Option.bind_some]
    have l2 := len_addK ks1 (64 * l.t + l.a)
    have m2 : ∀ P ∈ addK ks1 (64 * l.t + l.a), P ∈ (i.legs.take (j + 1)).flatMap (legP z.fc) := by
      intro P hP
      rcases mem_addK.mp hP with h | h
      · exact m1 P h
      · exact hin P (legP_mem.mpr (Or.inr (Or.inl h)))
    have nd2 : (addK ks1 (64 * l.t + l.a)).Nodup := by
      apply nodup_addK
      rw [← hk1']
      exact nodup_addK hk1.nd
    have mm2 : ∀ P, P ∈ addK ks1 (64 * l.t + l.a) ↔ P ∈ ks ∨ P = 64 * l.f + l.a ∨ P = 64 * l.t + l.a := by
      intro P
      rw [mem_addK, ← hk1', mem_addK, or_assoc]
    generalize hk2' : addK ks1 (64 * l.t + l.a) = ks2 at *
    simp only [x12.eA 52 (by decide), x12.eA 50 (by decide), x12.eA 51 (by decide), x12.1 16 (by decide), x12.eB 38 (by decide), g1, g2, g3, hB.fir, eR]
    have ho := oI_eq (z := z) (a := l.a) (fun b hb => by have := hX.fc b hb; omega) (by omega)
    have fin : ∀ (s3 : mS) (ks3 : List Nat), mX [] [] [57] [] s s3 → KS s3 ks3 → ks3.Nodup → ks3.length ≤ 4 * j + 4 → (∀ P, P ∈ ks3 ↔ P ∈ ks ∨ (P ∈ legP z.fc l ∧ z.fld P = true)) → ∃ ks' s', l_Mo_places_6 fu (nI k) (nI ks3.length) (nI (4 * k + j + 1)) s3 = some (nI ks'.length, s') ∧ KS s' ks' ∧ isK z i.legs ks' ∧ ks'.length ≤ 4 * i.legs.length ∧ mX [] [] [57] [] s s' := by
      intro s3 ks3 x3 K3 nd3 l3 mm3
      obtain ⟨ks', s', h1, h2, h3, h4, h5⟩ := ih fu (j + 1) s3 ks3 (hB.x x3 (by decide) (by decide) (by decide)) (hI.x x3 (by decide) (by decide)) (by omega) (by omega) (by omega) K3 ⟨nd3, fun P => by
        rw [mm3, take_snoc hl, List.flatMap_append, List.mem_append, List.flatMap_cons, List.flatMap_nil, List.append_nil, hk1.mem]
        constructor
        · rintro (⟨h1, h2⟩ | ⟨h1, h2⟩)
          · exact ⟨Or.inl h1, h2⟩
          · exact ⟨Or.inr h1, h2⟩
        · rintro ⟨h1 | h1, h2⟩
          · exact Or.inl ⟨h1, h2⟩
          · exact Or.inr ⟨h1, h2⟩⟩ (by omega)
      exact ⟨ks', s', h1, h2, h3, h4, x3.tr h5⟩
    have fa1 : z.fld (64 * l.f + l.a) = true := fld_acc (P := 0) o4 (by omega) (by omega)
    have fa2 : z.fld (64 * l.t + l.a) = true := fld_acc (P := 0) o5 (by omega) (by omega)
    by_cases hfc : some l.a = z.fc
    · rw [if_neg (fun q => q (ho.mpr hfc)), ixI (show 256 * l.f + l.t < 65536 by omega) (by omega), Option.bind_some, hB.lim _ (by omega), lI_0]
      have b1 := hlim (256 * l.f + l.t)
      have b2 := hlim (256 * l.t + l.f)
      -- the first room
      have st1 : ∃ (s3 : mS) (ks3 : List Nat), (if ((lg_cmp (lI (z.lim (256 * l.f + l.t))) (lI 0)) : Int32) < 0 then (some ((nI ks2.length), s2)) else ((d_Mo_noted (nI ks2.length) ((16384 : Int32) + nI (256 * l.f + l.t)) s2).bind fun q59 => (some (q59.1, q59.2)))) = some (nI ks3.length, s3) ∧ mX [] [] [57] [] s s3 ∧ KS s3 ks3 ∧ ks3.Nodup ∧ ks3.length ≤ ks2.length + 1 ∧ (∀ P, P ∈ ks3 ↔ P ∈ ks2 ∨ (P = 16384 + (256 * l.f + l.t) ∧ z.fld P = true)) := by
        by_cases hq : z.lim (256 * l.f + l.t) < 0
        · rw [if_pos ((cmp_lt0 b1 (by omega)).mpr hq)]
          refine ⟨s2, ks2, rfl, x12, K2, nd2, by omega, fun P => ⟨fun h => Or.inl h, ?_⟩⟩
          rintro (h | ⟨h1, h2⟩)
          · exact h
          · rw [h1, fld_room] at h2
            have := of_decide_eq_true h2
            omega
        · rw [if_neg (fun q => hq ((cmp_lt0 b1 (by omega)).mp q)), eR2]
          obtain ⟨s3, e3, K3, x3⟩ := d_noted K2 (hbnd ks2 m2) (by omega) (P := 16384 + (256 * l.f + l.t)) (by omega)
          rw [e3]
          refine ⟨s3, _, rfl, x12.tr x3, K3, nodup_addK nd2, len_addK _ _, fun P => ?_⟩
          rw [mem_addK]
          constructor
          · rintro (h | h)
            · exact Or.inl h
            · refine Or.inr ⟨h, ?_⟩
              rw [h, fld_room]
              exact decide_eq_true (by omega)
          · rintro (h | ⟨h, -⟩)
            · exact Or.inl h
            · exact Or.inr h
      obtain ⟨s3, ks3, e3, x3, K3, nd3, l3, mm3⟩ := st1
      rw [e3, Option.bind_some]
      simp only [x3.eA 52 (by decide), x3.eA 50 (by decide), x3.eA 51 (by decide), x3.1 16 (by decide), x3.eB 38 (by decide), g1, g2, g3, hB.fir, eR]
      rw [if_neg (fun q => q (ho.mpr hfc)), ixI (show 256 * l.t + l.f < 65536 by omega) (by omega), Option.bind_some, hB.lim _ (by omega)]
      by_cases hq : z.lim (256 * l.t + l.f) < 0
      · rw [if_pos ((cmp_lt0 b2 (by omega)).mpr hq), Option.bind_some, nI_add1]
        refine fin s3 ks3 x3 K3 nd3 (by omega) (fun P => ?_)
        rw [mm3, mm2, legP_mem]
        constructor
        · rintro ((h | h | h) | ⟨h, h2⟩)
          · exact Or.inl h
          · exact Or.inr ⟨Or.inl h, by rw [h]; exact fa1⟩
          · exact Or.inr ⟨Or.inr (Or.inl h), by rw [h]; exact fa2⟩
          · exact Or.inr ⟨Or.inr (Or.inr ⟨hfc, Or.inl h⟩), h2⟩
        · rintro (h | ⟨h | h | ⟨-, h | h⟩, h2⟩)
          · exact Or.inl (Or.inl h)
          · exact Or.inl (Or.inr (Or.inl h))
          · exact Or.inl (Or.inr (Or.inr h))
          · exact Or.inr ⟨h, h2⟩
          · rw [h, fld_room] at h2
            have := of_decide_eq_true h2
            omega
      · rw [if_neg (fun q => hq ((cmp_lt0 b2 (by omega)).mp q)), eR2]
        have m3 : ∀ P ∈ ks3, P ∈ (i.legs.take (j + 1)).flatMap (legP z.fc) := by
          intro P hP
          rcases (mm3 P).mp hP with h | ⟨h, -⟩
          · exact m2 P h
          · exact hin P (legP_mem.mpr (Or.inr (Or.inr ⟨hfc, Or.inl h⟩)))
        obtain ⟨s4, e4, K4, x4⟩ := d_noted K3 (hbnd ks3 m3) (by omega) (P := 16384 + (256 * l.t + l.f)) (by omega)
        rw [e4, Option.bind_some, Option.bind_some, nI_add1]
        have l4 := len_addK ks3 (16384 + (256 * l.t + l.f))
        refine fin s4 _ (x3.tr x4) K4 (nodup_addK nd3) (by omega) (fun P => ?_)
        rw [mem_addK, mm3, mm2, legP_mem]
        constructor
        · rintro (((h | h | h) | ⟨h, h2⟩) | h)
          · exact Or.inl h
          · exact Or.inr ⟨Or.inl h, by rw [h]; exact fa1⟩
          · exact Or.inr ⟨Or.inr (Or.inl h), by rw [h]; exact fa2⟩
          · exact Or.inr ⟨Or.inr (Or.inr ⟨hfc, Or.inl h⟩), h2⟩
          · refine Or.inr ⟨Or.inr (Or.inr ⟨hfc, Or.inr h⟩), ?_⟩
            rw [h, fld_room]
            exact decide_eq_true (by omega)
        · rintro (h | ⟨h | h | ⟨-, h | h⟩, h2⟩)
          · exact Or.inl (Or.inl (Or.inl h))
          · exact Or.inl (Or.inl (Or.inr (Or.inl h)))
          · exact Or.inl (Or.inl (Or.inr (Or.inr h)))
          · exact Or.inl (Or.inr ⟨h, h2⟩)
          · exact Or.inr h
    · rw [if_pos (fun q => hfc (ho.mp q)), Option.bind_some]
      simp only [x12.eA 52 (by decide), x12.1 16 (by decide), g3, hB.fir]
      rw [if_pos (fun q => hfc (ho.mp q)), Option.bind_some, nI_add1]
      refine fin s2 ks2 x12 K2 nd2 (by omega) (fun P => ?_)
      rw [mm2, legP_mem]
      constructor
      · rintro (h | h | h)
        · exact Or.inl h
        · exact Or.inr ⟨Or.inl h, by rw [h]; exact fa1⟩
        · exact Or.inr ⟨Or.inr (Or.inl h), by rw [h]; exact fa2⟩
      · rintro (h | ⟨h | h | ⟨h, -⟩, -⟩)
        · exact Or.inl h
        · exact Or.inr (Or.inl h)
        · exact Or.inr (Or.inr h)
        · exact absurd h hfc
theorem d_places {s : mS} {z : Z} (hB : MB s z) (hX : okX z) (hlim : ∀ k, inL (z.lim k)) {k : Nat} {i : Ins} (hI : MI s k i) (hk : k < 250) (hok : ∀ l ∈ i.legs, okL z l) (hlen : i.legs.length ≤ 4) : ∃ ks s', d_Mo_places (nI k) s = some (nI ks.length, s') ∧ KS s' ks ∧ isK z i.legs ks ∧ ks.length ≤ 16 ∧ mX [] [] [57] [] s s' := by
  unfold d_Mo_places
  obtain ⟨ks, s', h1, h2, h3, h4, h5⟩ := d_places_loop hX hlim hk hok hlen _ 100000 0 s [] hB hI rfl (by omega) (by omega) (fun j P h => by simp at h) ⟨List.nodup_nil, fun P => by simp⟩ (by simp)
  rw [show (4 : Int32) * nI k = nI (4 * k + 0) by rw [show (4 : Int32) = nI 4 from rfl, nI_mul]; rfl]
  rw [show l_Mo_places_6 100000 (nI k) 0 (nI (4 * k + 0)) s = _ from h1]
  exact ⟨ks, s', rfl, h2, h3, by omega, h5⟩
