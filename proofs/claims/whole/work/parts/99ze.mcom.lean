theorem d_comes {n : Nat} {s : mS} {z : Z} (hQ : MQu s z) (hB : MB s z) (hO : okZ n z) {N : Nat} {M : List Nat} (hT : TXT (s.2.2.1 24) N M) (hN : N ≤ 400) {w pr : Nat} {ls : List Leg} (hl : z.ins.length < 250) (hl4 : ls.length ≤ 4) (hlN : 17 + 26 * ls.length ≤ N) (hR : LR z M ls) (hw : w < 256) (hf : ∀ l ∈ ls, l.f < 256) (h5 : s.1 5 = nI w) (h15 : s.2.2.1 24 15 - 48 = nI pr) (h16 : s.2.2.1 24 16 - 48 = nI ls.length) : ∃ s', d_Mo_comes s = some s' ∧ MQu s' (if (mkIns w (sl M 7 8) pr 0 ls [w]).wt then z.wIT (z.ins ++ [mkIns w (sl M 7 8) pr (z.turns + 1) ls [w]]) (z.turns + 1) else z.wIT (z.ins ++ [mkIns w (sl M 7 8) pr 0 ls [w]]) z.turns) ∧ mX [31] [45] [43, 44, 45, 48, 49, 50, 51, 52, 54] [46, 47, 53] s s' := by
  obtain ⟨k, hk⟩ : ∃ k, k = z.ins.length := ⟨_, rfl⟩
  have h31 : s.1 31 = nI k := by rw [hk]; exact hQ.many
  have hlg : ∀ i ∈ z.ins, i.legs.length ≤ 4 := fun i hi => (hO.oki i hi).len.2
  obtain ⟨s1, hs1⟩ : ∃ s1, s1 = mA (mI s 31 (nI (k + 1))) 43 k (nI w) := ⟨_, rfl⟩
  obtain ⟨a2, ha2⟩ : ∃ a2, a2 = mB s1 46 k (lI (b256 (sl M 7 8) : Nat)) := ⟨_, rfl⟩
  obtain ⟨a3, ha3⟩ : ∃ a3, a3 = mA a2 44 k (nI pr) := ⟨_, rfl⟩
  obtain ⟨a4, ha4⟩ : ∃ a4, a4 = mA a3 45 k (nI ls.length) := ⟨_, rfl⟩
  obtain ⟨a5, ha5⟩ : ∃ a5, a5 = mA a4 48 k (am_bn 3 0) := ⟨_, rfl⟩
  obtain ⟨a6, ha6⟩ : ∃ a6, a6 = mA a5 49 k (am_bn 3 0) := ⟨_, rfl⟩
  obtain ⟨s2, hs2⟩ : ∃ s2, s2 = mB a6 47 k 0 := ⟨_, rfl⟩
  have w1 : mX [31] [45] [43, 44, 45, 48, 49, 50, 51, 52, 54] [46, 47, 53] s s1 := by rw [hs1]; exact (mX.rf.I (by decide)).A (by decide)
  have w2 : mX [31] [45] [43, 44, 45, 48, 49, 50, 51, 52, 54] [46, 47, 53] s s2 := by
    rw [hs2, ha6, ha5, ha4, ha3, ha2]
    exact (((((w1.B (by decide)).A (by decide)).A (by decide)).A (by decide)).A (by decide)).B (by decide)
  have T' : ∀ {s' : mS}, mX [31] [45] [43, 44, 45, 48, 49, 50, 51, 52, 54] [46, 47, 53] s s' → TXT (s'.2.2.1 24) N M := fun {s'} w => by rw [w.2.2.1 24 (by decide)]; exact hT
  have B' : ∀ {s' : mS}, mX [31] [45] [43, 44, 45, 48, 49, 50, 51, 52, 54] [46, 47, 53] s s' → MB s' z := fun {s'} w => hB.x w (by decide) (by decide) (by decide)
  have dp : d_Mo_packed 7 8 s1 = some (lI (b256 (sl M 7 8) : Nat)) := d_pck (T' w1) hN 7 8 (by omega) (by omega)
  -- the cells of the row
  have f43 : ∀ q, s2.2.2.1 43 q = if q = k then nI w else s.2.2.1 43 q := fun q => by
    rw [hs2]
    show a6.2.2.1 43 q = _
    rw [ha6, mA_ne (by decide), ha5, mA_ne (by decide), ha4, mA_ne (by decide), ha3, mA_ne (by decide), ha2]
    show s1.2.2.1 43 q = _
    rw [hs1, mA_at]; rfl
  have f44 : ∀ q, s2.2.2.1 44 q = if q = k then nI pr else s.2.2.1 44 q := fun q => by
    rw [hs2]
    show a6.2.2.1 44 q = _
    rw [ha6, mA_ne (by decide), ha5, mA_ne (by decide), ha4, mA_ne (by decide), ha3, mA_at, ha2]
    show (if q = k then _ else s1.2.2.1 44 q) = _
    rw [hs1, mA_ne (by decide)]; rfl
  have f45 : ∀ q, s2.2.2.1 45 q = if q = k then nI ls.length else s.2.2.1 45 q := fun q => by
    rw [hs2]
    show a6.2.2.1 45 q = _
    rw [ha6, mA_ne (by decide), ha5, mA_ne (by decide), ha4, mA_at, ha3, mA_ne (by decide), ha2]
    show (if q = k then _ else s1.2.2.1 45 q) = _
    rw [hs1, mA_ne (by decide)]; rfl
  have f48 : ∀ q, s2.2.2.1 48 q = if q = k then 0 else s.2.2.1 48 q := fun q => by
    rw [hs2]
    show a6.2.2.1 48 q = _
    rw [ha6, mA_ne (by decide), ha5, mA_at, ha4, mA_ne (by decide), ha3, mA_ne (by decide), ha2]
    show (if q = k then _ else s1.2.2.1 48 q) = _
    rw [hs1, mA_ne (by decide)]; rfl
  have f46 : ∀ q, s2.2.2.2 46 q = if q = k then lI (b256 (sl M 7 8) : Nat) else s.2.2.2 46 q := fun q => by
    rw [hs2, mB_ne (by decide), ha6, ha5, ha4, ha3, ha2]
    show (mB s1 46 k (lI (b256 (sl M 7 8) : Nat))).2.2.2 46 q = _
    rw [mB_at, hs1]; rfl
  have f47 : ∀ q, s2.2.2.2 47 q = if q = k then 0 else s.2.2.2 47 q := fun q => by
    rw [hs2, mB_at, ha6, ha5, ha4, ha3, ha2, hs1]; rfl
  have f5x : ∀ a ∈ [50, 51, 52, 54], ∀ q, s2.2.2.1 a q = s.2.2.1 a q := fun a ha q => by
    have : a = 50 ∨ a = 51 ∨ a = 52 ∨ a = 54 := by simpa using ha
    rw [hs2]
    show a6.2.2.1 a q = _
    rw [ha6, mA_ne (by omega), ha5, mA_ne (by omega), ha4, mA_ne (by omega), ha3, mA_ne (by omega), ha2]
    show s1.2.2.1 a q = _
    rw [hs1, mA_ne (by omega)]; rfl
  have f53 : ∀ q, s2.2.2.2 53 q = s.2.2.2 53 q := fun q => by
    rw [hs2, mB_ne (by decide), ha6, ha5, ha4, ha3, ha2]
    show (mB s1 46 k (lI (b256 (sl M 7 8) : Nat))).2.2.2 53 q = _
    rw [mB_ne (by decide), hs1]; rfl
  have g31 : s2.1 31 = nI (k + 1) := by
    rw [hs2, ha6, ha5, ha4, ha3, ha2, hs1]
    show va_up s.1 31 (nI (k + 1)) 31 = _
    exact if_pos rfl
  have gT : s2.2.1 45 = lI z.turns := by
    rw [hs2, ha6, ha5, ha4, ha3, ha2, hs1]; exact hQ.turns
  have g5 : s2.1 5 = nI w := (w2.1 5 (by decide)).trans h5
  obtain ⟨s3, b1, b2, b3, b4⟩ := d_comes_loop hO (N := N) (M := M) hN (k := k) (w := w) (ls := ls) (by omega) hl4 hlN hR hw hf _ 100000 0 s2 rfl (by omega) (by omega) (T' w2) (B' w2) g5 ((f45 k).trans (if_pos rfl)) (fun t l ht => by omega)
  have w3 : mX [31] [45] [43, 44, 45, 48, 49, 50, 51, 52, 54] [46, 47, 53] s s3 := w2.tr (b4.mono (by simp) (by simp) (by simp) (by simp))
  have t3 : s3.2.1 45 = lI z.turns := (b4.2.1 45 (by simp)).trans gT
  have o3 : s3.1 31 = nI (k + 1) := (b4.1 31 (by simp)).trans g31
  have hq := d_queue (s := s3) (k := k) (i := mkIns w (sl M 7 8) pr 0 ls [w]) (by omega) hl4 ((b4.eA _ (by decide) _).trans ((f45 k).trans (if_pos rfl))) (fun j l hj => (b2 j l hj).2.2.2.2) (T := z.turns) t3
  have hun : d_Mo_comes s = some (if (mkIns w (sl M 7 8) pr 0 ls [w]).wt then mB (mL (mA s3 48 k 1) 45 (lI (z.turns + 1 : Nat))) 47 k (lI (z.turns + 1 : Nat)) else s3) := by
    have b1' : l_Mo_comes_94 100000 (nI k) 0 s2 = some s3 := b1
    unfold d_Mo_comes
    rw [h31, nI_add1, h5, ix_N (by omega) (by omega), Option.bind_some, ← hs1, dp, Option.bind_some, show am_ix 15 400 = some 15 from by decide, Option.bind_some, show am_ix 16 400 = some 16 from by decide, Option.bind_some, ← ha2]
    rw [h15, h16, ← ha3, ← ha4, ← ha5, ← ha6, ← hs2, b1', Option.bind_some, hq, Option.bind_some]
  have m3 : ∀ t, t ≠ k → ME s s3 t := fun t ht => by
    have hqq : ∀ j, j < 4 → ∀ u, u < 4 → 4 * t + j ≠ 4 * k + u := fun j hj u hu => by omega
    refine ⟨fun a ha => ?_, fun a ha => ?_, fun a ha j hj => ((b3 _ (hqq j hj)).1 a ha).trans (f5x a ha _), fun j hj => ((b3 _ (hqq j hj)).2).trans (f53 _)⟩
    · have : a = 43 ∨ a = 44 ∨ a = 45 ∨ a = 48 := by simpa using ha
      rcases this with rfl | rfl | rfl | rfl
      · rw [b4.eA _ (by decide), f43, if_neg ht]
      · rw [b4.eA _ (by decide), f44, if_neg ht]
      · rw [b4.eA _ (by decide), f45, if_neg ht]
      · rw [b4.eA _ (by decide), f48, if_neg ht]
    · have : a = 46 ∨ a = 47 := by simpa using ha
      rcases this with rfl | rfl
      · rw [b4.eB _ (by decide), f46, if_neg ht]
      · rw [b4.eB _ (by decide), f47, if_neg ht]
  have c43 : s3.2.2.1 43 k = nI w := (b4.eA _ (by decide) _).trans ((f43 k).trans (if_pos rfl))
  have c44 : s3.2.2.1 44 k = nI pr := (b4.eA _ (by decide) _).trans ((f44 k).trans (if_pos rfl))
  have c45 : s3.2.2.1 45 k = nI ls.length := (b4.eA _ (by decide) _).trans ((f45 k).trans (if_pos rfl))
  have c48 : s3.2.2.1 48 k = 0 := (b4.eA _ (by decide) _).trans ((f48 k).trans (if_pos rfl))
  have c46 : s3.2.2.2 46 k = lI (b256 (sl M 7 8) : Nat) := (b4.eB _ (by decide) _).trans ((f46 k).trans (if_pos rfl))
  have c47 : s3.2.2.2 47 k = 0 := (b4.eB _ (by decide) _).trans ((f47 k).trans (if_pos rfl))
  rw [hun]
  cases hwt : (mkIns w (sl M 7 8) pr 0 ls [w]).wt with
  | true =>
    rw [if_pos rfl, if_pos rfl]
    obtain ⟨s4, hs4⟩ : ∃ s4, s4 = mB (mL (mA s3 48 k 1) 45 (lI (z.turns + 1 : Nat))) 47 k (lI (z.turns + 1 : Nat)) := ⟨_, rfl⟩
    have eA : ∀ a j, a ≠ 48 → s4.2.2.1 a j = s3.2.2.1 a j := fun a j h => by
      rw [hs4]; exact (show (mA s3 48 k 1).2.2.1 a j = _ from mA_ne h)
    have eP : ∀ j, s4.2.2.1 48 j = if j = k then 1 else s3.2.2.1 48 j := fun j => by
      rw [hs4]; exact (show (mA s3 48 k 1).2.2.1 48 j = _ from mA_at _ _ _ _ _)
    have eB : ∀ a j, a ≠ 47 → s4.2.2.2 a j = s3.2.2.2 a j := fun a j h => by rw [hs4]; exact mB_ne h
    have eT : ∀ j, s4.2.2.2 47 j = if j = k then lI (z.turns + 1 : Nat) else s3.2.2.2 47 j := fun j => by
      rw [hs4]; exact mB_at _ _ _ _ _
    rw [← hs4]
    refine ⟨s4, rfl, ⟨?_, fun t j ht => ?_, ?_⟩, by rw [hs4]; exact ((w3.A (by decide)).L (by decide)).B (by decide)⟩
    · rw [wIT_ins, List.length_append, List.length_singleton, ← hk, hs4]; exact o3
    · rw [wIT_ins] at ht
      rcases get_snoc' ht with c | ⟨c1, c2⟩
      · have htk : t ≠ k := by have := get_lt' c; omega
        obtain ⟨d1, d2, d3, d4⟩ := m3 t htk
        refine (hQ.ins t j c).me ⟨fun a ha => ?_, fun a ha => ?_, fun a ha u hu => ?_, fun u hu => (eB _ _ (by decide)).trans (d4 u hu)⟩ (hlg j (List.mem_of_getElem? c))
        · by_cases e : a = 48
          · rw [e, eP, if_neg htk]; exact d1 48 (by decide)
          · rw [eA _ _ e]; exact d1 a ha
        · by_cases e : a = 47
          · rw [e, eT, if_neg htk]; exact d2 47 (by decide)
          · rw [eB _ _ e]; exact d2 a ha
        · rw [eA _ _ (fun c => by rw [c] at ha; revert ha; decide)]; exact d3 a ha u hu
      · rw [c2, c1, ← hk]
        refine ⟨(eA _ _ (by decide)).trans c43, (eA _ _ (by decide)).trans c44, (eA _ _ (by decide)).trans c45, (eB _ _ (by decide)).trans c46, (eT k).trans (if_pos rfl), ?_, fun u l hu => ?_⟩
        · rw [eP, if_pos rfl]
          have : (mkIns w (sl M 7 8) pr (z.turns + 1) ls [w]).wt = true := hwt
          rw [this]; rfl
        · obtain ⟨x1, x2, x3, x4, x5⟩ := b2 u l hu
          exact ⟨(eA _ _ (by decide)).trans x1, (eA _ _ (by decide)).trans x2, (eA _ _ (by decide)).trans x3, (eB _ _ (by decide)).trans x4, (eA _ _ (by decide)).trans x5⟩
    · rw [hs4]
      show va_up s3.2.1 45 _ 45 = _
      exact if_pos rfl
  | false =>
    rw [if_neg (by decide), if_neg (by decide)]
    refine ⟨s3, rfl, ⟨?_, fun t j ht => ?_, t3⟩, w3⟩
    · rw [wIT_ins, List.length_append, List.length_singleton, ← hk]; exact o3
    · rw [wIT_ins] at ht
      rcases get_snoc' ht with c | ⟨c1, c2⟩
      · exact (hQ.ins t j c).me (m3 t (by have := get_lt' c; omega)) (hlg j (List.mem_of_getElem? c))
      · rw [c2, c1, ← hk]
        refine ⟨c43, c44, c45, c46, c47, ?_, fun u l hu => b2 u l hu⟩
        rw [c48, hwt]; rfl
