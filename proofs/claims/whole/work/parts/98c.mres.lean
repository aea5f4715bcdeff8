/-! The reference resolves. -/
theorem d_res6 {n : Nat} {z : Z} (hO : okQ n z) {o : List Nat} (hol : o.length ≤ 250) (hob : ∀ k ∈ o, k < z.ins.length) : ∀ (d fu j : Nat) (s : mS), OS s o → (∀ x ∈ o.take j, s.2.2.1 49 x = 1) → o.length - j = d → d < fu → j ≤ o.length → ∃ s', l_Mo_resolve_6 fu (nI j) s = some s' ∧ CH s' z o (fun _ => true) ∧ mX [] [] [49] [] s s' := by
  have hil := hO.len
  intro d
  induction d with
  | zero =>
    intro fu j s hS h1 hd hf hj
    obtain ⟨fu, rfl⟩ : ∃ m, fu = m + 1 := ⟨fu - 1, by omega⟩
    unfold l_Mo_resolve_6
    rw [hS.1, if_pos ((nI_le' (by omega) (by omega)).mpr (by omega))]
    rw [List.take_of_length_le (by omega)] at h1
    exact ⟨s, rfl, h1, mX.rf⟩
  | succ d ih =>
    intro fu j s hS h1 hd hf hj
    obtain ⟨fu, rfl⟩ : ∃ m, fu = m + 1 := ⟨fu - 1, by omega⟩
    have hjl : j < o.length := by omega
    have hk := List.getElem?_eq_getElem hjl
    generalize hg : o[j] = k at hk
    have hkl := hob k (List.mem_of_getElem? hk)
    unfold l_Mo_resolve_6
    rw [hS.1, if_neg (fun q => by have := (nI_le' (by omega) (by omega)).mp q; omega), ixI (show j < 250 by omega) (by omega), Option.bind_some, hS.2 j k hk, ixI (show k < 250 by omega) (by omega), Option.bind_some, nI_add1]
    have x1 : mX [] [] [49] [] s (mA s 49 k (am_bn 3 1)) := mX.rf.A (by decide)
    obtain ⟨s', r1, r2, r3⟩ := ih fu (j + 1) (mA s 49 k (am_bn 3 1)) (hS.x x1 (by decide) (by decide)) (fun x hx => by
      rw [mA_at]
      by_cases e : x = k
      · rw [if_pos e]; rfl
      · rw [if_neg e]
        rw [take_snoc hk] at hx
        rcases List.mem_append.mp hx with w | w
        · exact h1 x w
        · exact absurd (List.mem_singleton.mp w) e) (by omega) (by omega) (by omega)
    exact ⟨s', r1, r2, x1.tr r3⟩
/-- the last chosen one that takes -/
def isLast (z : Z) (C : Ins → Bool) (P : Nat) (o : List Nat) (v : Int32) : Prop := (v = -1 ∧ ∀ x ∈ o, C (z.at x) = true → ¬ (z.at x).net z.fc P < 0) ∨ ∃ a x b, o = a ++ x :: b ∧ v = nI x ∧ C (z.at x) = true ∧ (z.at x).net z.fc P < 0 ∧ ∀ y ∈ b, C (z.at y) = true → ¬ (z.at y).net z.fc P < 0
theorem d_res59 {n : Nat} {z : Z} {s : mS} (hX : okX z) (hO : okQ n z) (hB : MB s z) (hQ : MQu s z) {o : List Nat} (hol : o.length ≤ 250) (hob : ∀ k ∈ o, k < z.ins.length) (hS : OS s o) {C : Ins → Bool} (hC : CH s z o C) {P : Nat} (hP : P < 81920) (v2 : Int32) : ∀ (d fu j : Nat) (v : Int32), isLast z C P (o.take j) v → o.length - j = d → d < fu → j ≤ o.length → ∃ r, l_Mo_resolve_59 fu (nI P) v2 v (nI j) s = some r ∧ isLast z C P o r := by
  have hil := hO.len
  intro d
  induction d with
  | zero =>
    intro fu j v hv hd hf hj
    obtain ⟨fu, rfl⟩ : ∃ m, fu = m + 1 := ⟨fu - 1, by omega⟩
    unfold l_Mo_resolve_59
    rw [hS.1, if_pos ((nI_le' (by omega) (by omega)).mpr (by omega))]
    rw [List.take_of_length_le (by omega)] at hv
    exact ⟨v, rfl, hv⟩
  | succ d ih =>
    intro fu j v hv hd hf hj
    obtain ⟨fu, rfl⟩ : ∃ m, fu = m + 1 := ⟨fu - 1, by omega⟩
    have hjl : j < o.length := by omega
    have hk := List.getElem?_eq_getElem hjl
    generalize hg : o[j] = k at hk
    have hkm := List.mem_of_getElem? hk
    have hkl := hob k hkm
    have htk := take_snoc hk
    have hI := hQ.ins k _ (at_some hkl)
    have hN := hO.n hkl
    have hnb := hN.net P
    unfold l_Mo_resolve_59
    rw [hS.1, if_neg (fun q => by have := (nI_le' (by omega) (by omega)).mp q; omega), ixI (show j < 250 by omega) (by omega), Option.bind_some, hS.2 j k hk, ixI (show k < 250 by omega) (by omega), Option.bind_some, hC k hkm, d_net hB hX hI hN.lt hN.lg hN.len hP, Option.bind_some, lI_0]
    have keep : ¬ (C (z.at k) = true ∧ (z.at k).net z.fc P < 0) → isLast z C P (o.take (j + 1)) v := by
      intro hno
      rw [htk]
      rcases hv with ⟨h1, h2⟩ | ⟨a, x, b, h1, h2, h3, h4, h5⟩
      · refine Or.inl ⟨h1, fun x hx hcx hnx => ?_⟩
        rcases List.mem_append.mp hx with w | w
        · exact h2 x w hcx hnx
        · rw [List.mem_singleton] at w
          subst w
          exact hno ⟨hcx, hnx⟩
      · refine Or.inr ⟨a, x, b ++ [k], by rw [h1]; simp, h2, h3, h4, fun y hy hcy hny => ?_⟩
        rcases List.mem_append.mp hy with w | w
        · exact h5 y w hcy hny
        · rw [List.mem_singleton] at w
          subst w
          exact hno ⟨hcy, hny⟩
    by_cases hc : C (z.at k) = true
    · rw [if_neg (b2i_ne0.mpr hc)]
      by_cases hn : (z.at k).net z.fc P < 0
      · rw [if_neg (fun w => by have := (cmp_ge0 (by omega) (by omega)).mp w; omega), Option.bind_some, nI_add1]
        refine ih fu (j + 1) (nI k) (Or.inr ⟨o.take j, k, [], htk, rfl, hc, hn, fun y hy => by simp at hy⟩) (by omega) (by omega) (by omega)
      · rw [if_pos ((cmp_ge0 (by omega) (by omega)).mpr (by omega)), Option.bind_some, nI_add1]
        exact ih fu (j + 1) v (keep fun w => hn w.2) (by omega) (by omega) (by omega)
    · rw [if_pos (b2i_eq0.mpr (by simpa using hc)), Option.bind_some, nI_add1]
      exact ih fu (j + 1) v (keep fun w => hc w.1) (by omega) (by omega) (by omega)
/-- where the search stands: what is found short, or nothing -/
def isP (z : Z) (C : Ins → Bool) (q : List Ins) (v : Int32) : Prop := (v = -1 ∧ z.flrd q C) ∨ ∃ P, P < 81920 ∧ z.fld P = true ∧ v = nI P ∧ z.bad C q P
theorem d_res43 {n : Nat} {z : Z} (hCc : okC z) (hX : okX z) (hF : okF z) (hO : okQ n z) (hG : good z) {o : List Nat} (ho : isO z z.ins.length o) : ∀ (d fu c : Nat) (s : mS) (v : Int32) (C : Ins → Bool), MB s z → MQu s z → M0 s → OS s o → CH s z o C → z.clsd (o.map z.at) C → z.ub (o.map z.at) C → isP z C (o.map z.at) v → 250 - c = d → d < fu → c ≤ 250 → cnt C (o.map z.at) ≤ d → ∃ s' C', l_Mo_resolve_43 fu v (nI c) s = some s' ∧ CH s' z o C' ∧ z.vld (o.map z.at) C' ∧ z.ub (o.map z.at) C' ∧ M0 s' ∧ mX [48] [] [49, 56, 57, 58] [59] s s' := by
  have hol := ho.len
  have hil := hO.len
  have hq := ho.q
  have hu := q_unq hO hq
  intro d
  induction d with
  | zero =>
    intro fu c s v C hB hQ h0 hS hC hcl hub hv hd hf hc hcn
    obtain ⟨fu, rfl⟩ : ∃ m, fu = m + 1 := ⟨fu - 1, by omega⟩
    unfold l_Mo_resolve_43
    rw [if_pos (show (250 : Int32) ≤ nI c from (nI_le' (a := 250) (by omega) (by omega)).mpr (by omega))]
    refine ⟨s, C, rfl, hC, ⟨hcl, ?_⟩, hub, h0, mX.rf⟩
    rintro P ⟨i, hi, h1, h2⟩
    have : i ∈ (o.map z.at).filter C := List.mem_filter.mpr ⟨hi, h1⟩
    have h3 : ((o.map z.at).filter C).length = 0 := by unfold cnt at hcn; omega
    rw [List.length_eq_zero_iff.mp h3] at this
    simp at this
  | succ d ih =>
    intro fu c s v C hB hQ h0 hS hC hcl hub hv hd hf hc hcn
    obtain ⟨fu, rfl⟩ : ∃ m, fu = m + 1 := ⟨fu - 1, by omega⟩
    unfold l_Mo_resolve_43
    rw [if_neg (fun q => by have := (nI_le' (a := 250) (by omega) (by omega)).mp q; omega)]
    rcases hv with ⟨h1, h2⟩ | ⟨P, hP, hfl, h1, h2⟩
    · rw [h1, if_pos (by decide)]
      exact ⟨s, C, rfl, hC, ⟨hcl, h2⟩, hub, h0, mX.rf⟩
    · rw [h1, if_neg (nI_neg1 (by omega))]
      obtain ⟨r, e1, hr⟩ := d_res59 hX hO hB hQ (o := o) (by omega) (fun k hk => at_lt ho hk) hS hC hP (nI c) _ 100000 0 (-1) (Or.inl ⟨rfl, by simp⟩) rfl (by omega) (by omega)
      rw [show l_Mo_resolve_59 100000 (nI P) (nI c) (-1) 0 s = some r from e1, Option.bind_some]
      rcases hr with ⟨-, hno⟩ | ⟨a, x, b, ho2, hr, hcx, hnx, hlast⟩
      · exfalso
        obtain ⟨i, hi, h3, h4⟩ := sumC_neg h2.1
        obtain ⟨x, hx, rfl⟩ := List.mem_map.mp hi
        exact hno x hx h3 h4
      · have hxo : x ∈ o := by rw [ho2]; simp
        have hxl := at_lt ho hxo
        rw [hr, if_neg (nI_neg1 (by omega)), ixI (show x < 250 by omega) (by omega), Option.bind_some, Option.bind_some]
        have x1 : mX [48] [] [49, 56, 57, 58] [59] s (mA s 49 x (am_bn 3 0)) := mX.rf.A (by decide)
        have C1 : CH (mA s 49 x (am_bn 3 0)) z o (out1 C (z.at x)) := fun k hk => by
          rw [mA_at]
          by_cases e : k = x
          · rw [if_pos e, e, out1_i]; rfl
          · rw [if_neg e, out1_ne (at_key hO hxl (at_lt ho hk) (fun w => e w.symm))]; exact hC k hk
        have U1 : z.ub (o.map z.at) (out1 C (z.at x)) := by
          intro V hvv i hi hvi
          obtain ⟨k, hk, rfl⟩ := List.mem_map.mp hi
          by_cases e : k = x
          · subst e
            have := ub_short hq.1 hub hfl h2.2 hi hnx (fun j hj haj hcj => by
              obtain ⟨y, hy, rfl⟩ := List.mem_map.mp hj
              have hpw := ho.srt
              rw [ho2] at hy hpw
              obtain ⟨-, p2, p3⟩ := List.pairwise_append.mp hpw
              rcases List.mem_append.mp hy with w | w
              · exact absurd (ahd_ir haj (p3 y w k List.mem_cons_self)) (by simp)
              · rcases List.mem_cons.mp w with w | w
                · subst w; exact absurd (ahd_ir haj haj) (by simp)
                · exact hlast y w hcj) hvv
            rw [hvi] at this
            cases this
          · rw [out1_ne (at_key hO hxl (at_lt ho hk) (fun w => e w.symm))]
            exact hub V hvv _ hi hvi
        obtain ⟨s2, e2, C2, m2, x2⟩ := d_close hX hF hO (hB.x x1 (by decide) (by decide) (by decide)) (hQ.x x1 (by decide) (by decide) (by decide) (by decide)) (h0.x (ki := []) (kl := []) (ka := [49]) (kb := []) (mX.rf.A (by decide)) (by decide) (by decide) (by decide)) ho (hS.x x1 (by decide) (by decide)) C1
        have x12 := x1.tr x2
        obtain ⟨cl2, ub2⟩ := clo_all hq.1 hu U1
        obtain ⟨r3, s3, e3, p3, m3, x3⟩ := d_short hCc hX hF hO hG (hB.x x12 (by decide) (by decide) (by decide)) (hQ.x x12 (by decide) (by decide) (by decide) (by decide)) m2 ho (hS.x x12 (by decide) (by decide)) C2
        have x13 : mX [48] [] [49, 56, 57, 58] [59] s s3 := x12.tr (x3.mono (by decide) (by decide) (by decide) (by decide))
        rw [e2, Option.bind_some, e3, Option.bind_some, nI_add1]
        have hcnt : cnt (cloF z (fun _ => false) (out1 C (z.at x)) (o.map z.at)) (o.map z.at) < cnt C (o.map z.at) := by
          refine cnt_lt (fun i _ h => out1_le (cloF_le h)) ⟨z.at x, List.mem_map_of_mem hxo, hcx, ?_⟩
          cases h : cloF z (fun _ => false) (out1 C (z.at x)) (o.map z.at) (z.at x) with
          | false => rfl
          | true => have := cloF_le h; rw [out1_i] at this; cases this
        obtain ⟨s', C', t1, t2, t3, t4, t5, t6⟩ := ih fu (c + 1) s3 r3 _ (hB.x x13 (by decide) (by decide) (by decide)) (hQ.x x13 (by decide) (by decide) (by decide) (by decide)) m3 (hS.x x13 (by decide) (by decide)) (C2.x x3 (by decide)) cl2 ub2 p3 (by omega) (by omega) (by omega) (by omega)
        exact ⟨s', C', t1, t2, t3, t4, t5, x13.tr t6⟩
theorem same_mov (z : Z) (i : Ins) : same z (z.mov i) := ⟨rfl, rfl, rfl, rfl, rfl, rfl, rfl, rfl, rfl, rfl⟩
theorem same_movs (g : List Ins) : ∀ z : Z, same z (movs z g) ∧ (movs z g).ins = z.ins := by
  induction g with
  | nil => intro z; exact ⟨same.rf z, rfl⟩
  | cons i g ih => intro z; exact ⟨(same_mov z i).tr (ih (z.mov i)).1, (ih (z.mov i)).2⟩
theorem movs_app (z : Z) (g h : List Ins) : movs z (g ++ h) = movs (movs z g) h := List.foldl_append
theorem movs_ins (L : List Ins) (g : List Ins) : ∀ z : Z, movs (z.wIns (L)) g = ((movs z g).wIns (L)) := by
  induction g with
  | nil => intro z; rfl
  | cons i g ih => intro z; exact ih (z.mov i)
theorem stl_movs (g : List Ins) : ∀ z : Z, stlL z g = ((movs z g).wIns ((stlL z g).ins)) := by
  induction g with
  | nil => intro z; rfl
  | cons i g ih =>
    intro z
    show stlL (z.stl i) g = ((movs (z.mov i) g).wIns ((stlL (z.stl i) g).ins))
    have e : z.stl i = ((z.mov i).wIns ((z.stl i).ins)) := rfl
    rw [ih (z.stl i), e, movs_ins]; rfl
theorem okI.same {z z' : Z} {i : Ins} (h : same z z') (ho : okI z i) : okI z' i := by
  obtain ⟨a1, a2, a3, a4, a5, a6⟩ := ho
  refine ⟨by rw [h.mem]; exact a1, a2, a3, by rw [h.turns]; exact a4, a5, fun l hl => ?_⟩
  obtain ⟨b1, b2, b3, b4, b5, b6, b7, b8⟩ := a6 l hl
  exact ⟨by rw [h.mem]; exact b1, by rw [h.mem]; exact b2, by rw [h.ast]; exact b3, b4, b5, b6, b7, b8⟩
theorem d_res144 {n : Nat} {z : Z} (hn : n ≤ 512) (hO : okZ n z) {o : List Nat} (ho : isO z z.ins.length o) (C : Ins → Bool) : ∀ (d fu j : Nat) (s : mS) (v : Nat) (b : Bool) (bs : List Int32), MB s (movs z (((o.take j).map z.at).filter C)) → MQu s z → M0 s → OS s o → CH s z o C → AN s bs → s.1 54 = b2i b → bs.length + 14 * (o.length - j) + 14 < 32768 → v ≤ j → (v = 0 → ((o.take j).map z.at).filter C = []) → o.length - j = d → d < fu → j ≤ o.length → ∃ s' v' b', l_Mo_resolve_144 fu (nI v) (nI j) s = some (nI v', s') ∧ v' ≤ 250 ∧ (v' = 0 → (o.map z.at).filter C = []) ∧ MB s' (movs z ((o.map z.at).filter C)) ∧ MQu s' z ∧ M0 s' ∧ CH s' z o C ∧ AN s' (bs ++ evs z (((o.drop j).map z.at).filter C)) ∧ s'.1 54 = b2i b' ∧ mX [7, 54] [] [25, 36, 57] [31, 34, 35, 37] s s' := by
  have hol := ho.len
  have hil := hO.ins
  intro d
  induction d with
  | zero =>
    intro fu j s v b bs hB hQ h0 hS hC hA hb hl hv hv0 hd hf hj
    obtain ⟨fu, rfl⟩ : ∃ m, fu = m + 1 := ⟨fu - 1, by omega⟩
    unfold l_Mo_resolve_144
    rw [hS.1, if_pos ((nI_le' (by omega) (by omega)).mpr (by omega))]
    rw [List.take_of_length_le (by omega)] at hB hv0
    refine ⟨s, v, b, rfl, by omega, hv0, hB, hQ, h0, hC, ?_, hb, mX.rf⟩
    rw [List.drop_eq_nil_of_le (by omega)]
    simpa [evs] using hA
  | succ d ih =>
    intro fu j s v b bs hB hQ h0 hS hC hA hb hl hv hv0 hd hf hj
    obtain ⟨fu, rfl⟩ : ∃ m, fu = m + 1 := ⟨fu - 1, by omega⟩
    have hjl : j < o.length := by omega
    have hk := List.getElem?_eq_getElem hjl
    generalize hg : o[j] = k at hk
    have hkm := List.mem_of_getElem? hk
    have hkl := at_lt ho hkm
    have htk := take_snoc hk
    have hdr : o.drop j = k :: o.drop (j + 1) := by rw [List.drop_eq_getElem_cons hjl, hg]
    have hI := hQ.ins k _ (at_some hkl)
    have hok := hO.oki _ (at_mem hkl)
    unfold l_Mo_resolve_144
    rw [hS.1, if_neg (fun q => by have := (nI_le' (by omega) (by omega)).mp q; omega), ixI (show j < 250 by omega) (by omega), Option.bind_some, hS.2 j k hk, ixI (show k < 250 by omega) (by omega), Option.bind_some, hC k hkm]
    by_cases hc : C (z.at k) = true
    · rw [if_pos (b2i_ne0.mpr hc)]
      have hsm := (same_movs (((o.take j).map z.at).filter C) z).1
      obtain ⟨s1, b1, e1, B1, A1, q54, -, x1⟩ := d_done (z := movs z (((o.take j).map z.at).filter C)) ⟨by rw [hsm.mem]; exact hO.x.mem, by rw [hsm.ast]; exact hO.x.ast, by rw [hsm.fc, hsm.ast]; exact hO.x.fc⟩ (by rw [hsm.mem]; exact hO.cod) (fun q => by rw [hsm.lim]; exact okX.lim hO q) hB hI (hok.same hsm) (by omega) hA (by omega) hb
      rw [e1, Option.bind_some, Option.bind_some]
      simp only [nI_add1]
      have hfil : ((o.take (j + 1)).map z.at).filter C = ((o.take j).map z.at).filter C ++ [z.at k] := by
        rw [htk, List.map_append, List.filter_append]
        congr 1
        show [z.at k].filter C = _
        rw [List.filter_cons_of_pos hc]; rfl
      rw [evB_mem hsm.mem] at A1
      obtain ⟨s', v', b', t1, t2, t2', t3, t4, t5, t6, t7, t8, t9⟩ := ih fu (j + 1) s1 (v + 1) b1 (bs ++ evB z 83 (z.at k)) (by
          rw [hfil, movs_app]; exact B1) (hQ.x x1 (by decide) (by decide) (by decide) (by decide)) (h0.x x1 (by decide) (by decide) (by decide)) (hS.x x1 (by decide) (by decide)) (hC.x x1 (by decide)) A1 q54 (by rw [List.length_append, evB_len hO.cod hok]; omega) (by omega) (by omega) (by omega) (by omega) (by omega)
      refine ⟨s', v', b', t1, t2, t2', t3, t4, t5, t6, ?_, t8, x1.tr t9⟩
      rw [hdr, List.map_cons, List.filter_cons_of_pos hc]
      rw [List.append_assoc] at t7
      exact t7
    · rw [if_neg (fun q => q (b2i_eq0.mpr (by simpa using hc))), Option.bind_some]
      simp only [nI_add1]
      have hfil : ((o.take (j + 1)).map z.at).filter C = ((o.take j).map z.at).filter C := by
        rw [htk, List.map_append, List.filter_append]
        show _ ++ [z.at k].filter C = _
        rw [List.filter_cons_of_neg hc]; simp
      obtain ⟨s', v', b', t1, t2, t2', t3, t4, t5, t6, t7, t8, t9⟩ := ih fu (j + 1) s v b bs (by rw [hfil]; exact hB) hQ h0 hS hC hA hb (by omega) (by omega) (by rw [hfil]; exact hv0) (by omega) (by omega) (by omega)
      refine ⟨s', v', b', t1, t2, t2', t3, t4, t5, t6, ?_, t8, t9⟩
      rw [hdr, List.map_cons, List.filter_cons_of_neg hc]; exact t7
/-- those that stay -/
def stay (C : Ins → Bool) (i : Ins) : Bool := !(i.wt && C i)
theorem d_res195 {n : Nat} {z : Z} (hO : okZ n z) {o : List Nat} (ho : isO z z.ins.length o) (C : Ins → Bool) (v2 : Int32) : ∀ (m fu : Nat) (s : mS), m ≤ z.ins.length → m < fu → MQu s (z.wIns (z.ins.take m ++ (z.ins.drop m).filter (stay C))) → (∀ k ∈ o, k < m → s.2.2.1 49 k = b2i (C (z.at k))) → ∃ s', l_Mo_resolve_195 fu v2 (nI m - 1) s = some s' ∧ MQu s' (z.wIns (z.ins.filter (stay C))) ∧ mX [31] [] kdA kdB s s' := by
  have hil := hO.ins
  intro m
  induction m with
  | zero =>
    intro fu s hm hf hQ hC
    obtain ⟨fu, rfl⟩ : ∃ m, fu = m + 1 := ⟨fu - 1, by omega⟩
    unfold l_Mo_resolve_195
    rw [if_pos (by decide)]
    exact ⟨s, rfl, by simpa using hQ, mX.rf⟩
  | succ m ih =>
    intro fu s hm hf hQ hC
    obtain ⟨fu, rfl⟩ : ∃ m, fu = m + 1 := ⟨fu - 1, by omega⟩
    have hml : m < z.ins.length := by omega
    have hsome := at_some hml
    have htk := take_snoc hsome
    have hdr : z.ins.drop m = z.at m :: z.ins.drop (m + 1) := by
      rw [List.drop_eq_getElem_cons hml]
      congr 1
      exact Option.some.inj ((List.getElem?_eq_getElem hml).symm.trans hsome)
    have hlen : (z.ins.take m).length = m := by rw [List.length_take]; omega
    have hat : (z.ins.take (m + 1) ++ (z.ins.drop (m + 1)).filter (stay C))[m]? = some (z.at m) := by
      rw [htk, List.append_assoc, List.getElem?_append_right (by omega), hlen, Nat.sub_self]; rfl
    have hflen : ((z.ins.drop (m + 1)).filter (stay C)).length ≤ z.ins.length - (m + 1) := by
      have := List.length_filter_le (stay C) (z.ins.drop (m + 1))
      rw [List.length_drop] at this
      exact this
    have hI := hQ.ins m _ hat
    rw [show nI (m + 1) - 1 = nI m by rw [show (1 : Int32) = nI 1 from rfl, nI_sub' (by omega)]; rfl]
    unfold l_Mo_resolve_195
    rw [if_neg (nI_neg1 (by omega)), ixI (show m < 250 by omega) (by omega), Option.bind_some, hI.wt]
    have e1 : nI m + (-1) = nI m - 1 := (Int32.sub_eq_add_neg ..).symm
    have hsame : ((z.at m).wt && C (z.at m)) = false → z.ins.take (m + 1) ++ (z.ins.drop (m + 1)).filter (stay C) = z.ins.take m ++ (z.ins.drop m).filter (stay C) := by
      intro h
      rw [hdr, List.filter_cons_of_pos (by unfold stay; rw [h]; rfl), htk, List.append_assoc]; rfl
    by_cases hw : (z.at m).wt = true
    · have hmo : m ∈ o := (ho.mem m).mpr ⟨hml, hw⟩
      rw [if_neg (b2i_ne0.mpr hw), hC m hmo (by omega)]
      by_cases hc : C (z.at m) = true
      · rw [if_neg (b2i_ne0.mpr hc)]
        obtain ⟨s1, r1, r2, r3, r4⟩ := d_drop hQ (by
            show (z.ins.take (m + 1) ++ (z.ins.drop (m + 1)).filter (stay C)).length ≤ 250
            rw [List.length_append, List.length_take]; omega) (fun i hi => by
            have hi' : i ∈ z.ins := by
              rcases List.mem_append.mp hi with w | w
              · exact List.mem_of_mem_take w
              · exact List.mem_of_mem_drop (List.mem_filter.mp w).1
            exact (hO.oki i hi').len.2) (k := m) (List.getElem?_eq_some_iff.mp hat).1
        rw [r1, Option.bind_some, Option.bind_some, e1]
        have heq : (z.ins.take (m + 1) ++ (z.ins.drop (m + 1)).filter (stay C)).eraseIdx m = z.ins.take m ++ (z.ins.drop m).filter (stay C) := by
          rw [htk, List.append_assoc, List.eraseIdx_append_of_length_le (by omega), hlen, Nat.sub_self]
          show z.ins.take m ++ (z.ins.drop (m + 1)).filter (stay C) = _
          rw [hdr, List.filter_cons_of_neg (by unfold stay; rw [hw, hc]; simp)]
        obtain ⟨s', t1, t2, t3⟩ := ih fu s1 (by omega) (by omega) (by
            have : (z.wIns ((z.ins.take (m + 1) ++ (z.ins.drop (m + 1)).filter (stay C)).eraseIdx m)) = (z.wIns (z.ins.take m ++ (z.ins.drop m).filter (stay C))) := by rw [heq]
            rw [← this]; exact r2) (fun k hk hkm => by rw [r3 k hkm]; exact hC k hk (by omega))
        exact ⟨s', t1, t2, r4.tr t3⟩
      · rw [if_pos (b2i_eq0.mpr (by simpa using hc)), Option.bind_some, e1]
        exact ih fu s (by omega) (by omega) (by rw [← hsame (by rw [show C (z.at m) = false by simpa using hc]; simp)]; exact hQ) (fun k hk hkm => hC k hk (by omega))
    · rw [if_pos (b2i_eq0.mpr (by simpa using hw)), Option.bind_some, e1]
      exact ih fu s (by omega) (by omega) (by rw [← hsame (by rw [show (z.at m).wt = false by simpa using hw]; rfl)]; exact hQ) (fun k hk hkm => hC k hk (by omega))
theorem stay_eq {n : Nat} {z : Z} (hO : okQ n z) {q : List Ins} (hq : z.isq q) (C : Ins → Bool) : z.ins.filter (stay C) = (stlL z (q.filter C)).ins := by
  rw [stls_ins]
  refine List.filter_congr fun j hj => ?_
  unfold stay
  congr 1
  rw [Bool.eq_iff_iff, Bool.and_eq_true, List.any_eq_true]
  constructor
  · rintro ⟨h1, h2⟩
    exact ⟨j, List.mem_filter.mpr ⟨(hq.2 j).mpr ⟨hj, h1⟩, h2⟩, by simp [sameK]⟩
  · rintro ⟨i, hi, hs⟩
    obtain ⟨h1, h2⟩ := List.mem_filter.mp hi
    have h3 := (hq.2 i).mp h1
    have hs' : i.who = j.who ∧ i.nm = j.nm := of_decide_eq_true hs
    have : i = j := by
      obtain ⟨x, hx, ex⟩ := List.mem_iff_getElem.mp h3.1
      obtain ⟨y, hy, ey⟩ := List.mem_iff_getElem.mp hj
      have hpp := List.pairwise_iff_getElem.mp hO.unq
      rcases Nat.lt_trichotomy x y with w | w | w
      · exact absurd (by rw [ex, ey]; exact hs') (hpp x y hx hy w)
      · subst w; exact ex.symm.trans ey
      · exact absurd (by rw [ex, ey]; exact ⟨hs'.1.symm, hs'.2.symm⟩) (hpp y x hy hx w)
    subst this
    exact ⟨h3.2, h2⟩
/-- what resolving comes to, once the greatest set is known -/
def resZ (z : Z) (q : List Ins) (C : Ins → Bool) : Z × List Ins × List Ins := ((setl 250 (stlL z (q.filter C)) (q.filter fun i => !(C i))).1, (setl 250 (stlL z (q.filter C)) (q.filter fun i => !(C i))).2.1, q.filter C ++ (setl 250 (stlL z (q.filter C)) (q.filter fun i => !(C i))).2.2)
theorem evs_app (z : Z) (a b : List Ins) : evs z (a ++ b) = evs z a ++ evs z b := by
  unfold evs
  rw [List.map_append, List.flatten_append]
theorem evs_len {z : Z} (hcod : ∀ c ∈ z.mem, c.length = 4 ∧ is36 c) : ∀ {es : List Ins}, (∀ i ∈ es, okI z i) → (evs z es).length = 14 * es.length := by
  intro es
  induction es with
  | nil => intro _; rfl
  | cons i es ih =>
    intro h
    have : evs z (i :: es) = evB z 83 i ++ evs z es := rfl
    rw [this, List.length_append, evB_len hcod (h i List.mem_cons_self), ih fun j hj => h j (List.mem_cons_of_mem _ hj), List.length_cons]; omega
theorem evs_mem {z z' : Z} (h : z'.mem = z.mem) (es : List Ins) : evs z' es = evs z es := by
  unfold evs
  congr 1
  exact List.map_congr_left fun i _ => evB_mem h 83 i
theorem d_resolve {n : Nat} (hn : n ≤ 512) {s : mS} {z : Z} {bs : List Int32} {q : List Ins} (hR : RS s z bs) (hO : okZ n z) (hG : good z) (hq : z.isq q) {b : Bool} (hb : s.1 54 = b2i b) (hl : bs.length + 14 * z.ins.length + 14 * z.ins.length + 28 < 32768) : ∃ s' b' C, d_Mo_resolve s = some s' ∧ z.vld q C ∧ z.ub q C ∧ RS s' (resZ z q C).1 (bs ++ evs z (resZ z q C).2.2) ∧ okZ n (resZ z q C).1 ∧ good (resZ z q C).1 ∧ (resZ z q C).1.isq (resZ z q C).2.1 ∧ (resZ z q C).1.fst (fun _ => false) (resZ z q C).2.1 = none ∧ s'.1 54 = b2i b' ∧ mX kI [] kA kB s s' := by
  obtain ⟨o, s1, e1, S1, O1, x1⟩ := d_sort hR.Q hO.q hn
  have hol := O1.len
  have hil := hO.ins
  have hqo : o.map z.at = q := isq.un O1.q hq
  obtain ⟨s2, e2, C2, x2⟩ := d_res6 hO.q (o := o) (by omega) (fun k hk => at_lt O1 hk) _ 100000 0 s1 S1 (by simp) rfl (by omega) (by omega)
  have x12 : mX [32] [] [49, 55] [] s s2 := (x1.mono (by simp) (by simp) (by simp) (by simp)).tr (x2.mono (by simp) (by simp) (by simp) (by simp))
  have B2 := hR.B.x x12 (by decide) (by decide) (by decide)
  have Q2 := hR.Q.x x12 (by decide) (by decide) (by decide) (by decide)
  have m2 := hR.m0.x x12 (by decide) (by decide) (by decide)
  obtain ⟨s3, e3, C3, m3, x3⟩ := d_close hO.x (hO.f hn) hO.q B2 Q2 m2 O1 (S1.x x2 (by decide) (by decide)) C2
  have B3 := B2.x x3 (by decide) (by decide) (by decide)
  have Q3 := Q2.x x3 (by decide) (by decide) (by decide) (by decide)
  have S3 := (S1.x x2 (by decide) (by decide)).x x3 (by decide) (by decide)
  obtain ⟨cl3, ub3⟩ := clo_all (z := z) O1.q.1 (q_unq hO.q O1.q) (C := fun _ => true) (ub_all fun _ _ => rfl)
  obtain ⟨r4, s4, e4, p4, m4, x4⟩ := d_short (hO.c hn) hO.x (hO.f hn) hO.q hG B3 Q3 m3 O1 S3 C3
  have B4 := B3.x x4 (by decide) (by decide) (by decide)
  have Q4 := Q3.x x4 (by decide) (by decide) (by decide) (by decide)
  have S4 := S3.x x4 (by decide) (by decide)
  obtain ⟨s5, C, e5, C5, v5, ub5, m5, x5⟩ := d_res43 (hO.c hn) hO.x (hO.f hn) hO.q hG O1 250 100000 0 s4 r4 _ B4 Q4 m4 S4 (C3.x x4 (by decide)) cl3 ub3 p4 rfl (by omega) (by omega) (by
    unfold cnt
    have := List.length_filter_le (cloF z (fun _ => false) (fun _ => true) (o.map z.at)) (o.map z.at)
    rw [List.length_map] at this
    omega)
  have x35 : mX [48] [] [49, 56, 57, 58] [59] s2 s5 := (x3.tr (x4.mono (by simp) (by simp) (by simp) (by simp))).tr x5
  have B5 := B2.x x35 (by decide) (by decide) (by decide)
  have Q5 := Q2.x x35 (by decide) (by decide) (by decide) (by decide)
  have S5 := S4.x x5 (by decide) (by decide)
  have A5 := (hR.A.x x12 (by decide) (by decide)).x x35 (by decide) (by decide)
  have b5 : s5.1 54 = b2i b := (x35.1 54 (by decide)).trans ((x12.1 54 (by decide)).trans hb)
  obtain ⟨s6, v6, b6, e6, hv6, hv60, B6, Q6, m6, C6, A6, q6, x6⟩ := d_res144 hn hO O1 C _ 100000 0 s5 0 b bs B5 Q5 m5 S5 C5 A5 b5 (by omega) (by omega) (by intro _; rfl) rfl (by omega) (by omega)
  rw [List.drop_zero, hqo] at A6
  rw [hqo] at v5 ub5 B6 hv60
  obtain ⟨s7, e7, Q7, x7⟩ := d_res195 hO O1 C (nI v6) z.ins.length 100000 s6 (Nat.le_refl _) (by omega) (by
    rw [List.take_length, List.drop_length, List.filter_nil, List.append_nil]
    exact Q6) (fun k hk _ => C6 k hk)
  have hO7 : okZ n (stlL z (q.filter C)) := hO.stls _ (fun i hi => ((hq.2 i).mp (List.mem_filter.mp hi).1).1) ((q_unq hO.q hq).filter _)
  have hG7 := good.stls hO hG hq v5
  have hq7 := isq.stls hO.q hq C
  have hsm := same_stls (q.filter C) z
  have hR7 : RS s7 (stlL z (q.filter C)) (bs ++ evs z (q.filter C)) := by
    refine ⟨?_, ?_, m6.x x7 (by decide) (by decide) (by decide), A6.x x7 (by decide) (by decide)⟩
    · have := B6.x x7 (by decide) (by decide) (by decide)
      rw [stl_movs]
      exact this.eqv rfl rfl rfl rfl (fun _ _ => rfl) (fun _ _ => rfl) (fun _ _ => rfl) (fun _ _ => rfl) (fun _ _ => rfl) (fun _ _ => rfl) (fun _ _ => rfl) (fun _ _ => rfl)
    · have hst := stay_eq hO.q hq C
      refine ⟨?_, ?_, ?_⟩
      · have := Q7.many
        rw [show (z.wIns (z.ins.filter (stay C))).ins = (stlL z (q.filter C)).ins from hst] at this
        exact this
      · have := Q7.ins
        rw [show (z.wIns (z.ins.filter (stay C))).ins = (stlL z (q.filter C)).ins from hst] at this
        exact this
      · rw [hsm.turns]; exact Q7.turns
  have hi7 : (stlL z (q.filter C)).ins.length ≤ z.ins.length := by rw [stls_ins]; exact List.length_filter_le _ _
  have hes : (evs z (q.filter C)).length = 14 * (q.filter C).length := evs_len hO.cod fun i hi => hO.oki i ((hq.2 i).mp (List.mem_filter.mp hi).1).1
  have hqf : (q.filter C).length ≤ z.ins.length := by
    have h1 := List.length_filter_le C q
    have h2 : q.length = o.length := by rw [← hqo, List.length_map]
    omega
  obtain ⟨s8, b8, e8, R8, O8, G8, q8, f8, F8, x8⟩ := d_settle hn hR7 hO7 hG7 hq7 (b := b6) ((x7.1 54 (by decide)).trans q6) (by
    rw [List.length_append, hes]; omega)
  unfold d_Mo_resolve
  rw [e1, Option.bind_some, show l_Mo_resolve_6 100000 0 s1 = some s2 from e2, Option.bind_some, e3, Option.bind_some, e4, Option.bind_some]
  simp only []
  rw [show l_Mo_resolve_43 100000 r4 0 s4 = some s5 from e5, Option.bind_some, show l_Mo_resolve_144 100000 0 0 s5 = some (nI v6, s6) from e6, Option.bind_some]
  simp only []
  rw [Q6.many, e7, Option.bind_some]
  have hchk : (if (nI v6 : Int32) ≤ 0 then (some s7) else ((d_Mo_check s7).bind fun q188 => (some q188))) = some s7 := by
    split
    · rfl
    · rw [d_check hR7.B hO7 hn hG7]; rfl
  rw [hchk, Option.bind_some, e8, Option.bind_some]
  refine ⟨s8, b8, C, rfl, v5, ub5, ?_, O8, G8, q8, f8, F8.1, ?_⟩
  · have := R8
    rw [evs_mem hsm.mem, List.append_assoc, ← evs_app] at this
    exact this
  · refine ((x12.mono (by decide) (by decide) (by decide) (by decide)).tr (x35.mono (by decide) (by decide) (by decide) (by decide))).tr ((x6.mono (by decide) (by decide) (by decide) (by decide)).tr ((x7.mono (by decide) (by decide) (by decide) (by decide)).tr x8))
