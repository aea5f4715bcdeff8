/-! The answer, and how it is fetched. -/
def rAns (S : hS) (s : mS) : Prop := ∃ n t, n ≤ 6000 ∧ t ≤ n ∧ S.2.1 201 7 = nI n ∧ s.1 7 = nI n ∧ S.2.1 202 7 = nI t ∧ s.1 8 = nI t ∧ ∀ j, j < n → S.2.2.2.2.1 8 j = s.2.2.1 25 j
def sh8 (x : Int64) : Int64 := x <<< (Int32.toInt64 8 &&& 63)
def shn : Nat → Int64 → Int64
  | 0, x => x
  | k + 1, x => shn k (sh8 x)
theorem sh8_or (x y : Int64) : sh8 (x ||| y) = sh8 x ||| sh8 y := Int64.shiftLeft_or
theorem or0 (x : Int64) : x ||| 0 = x := Int64.or_zero
theorem shn_56 (m : Nat) (h : m ≤ 7) : shn 7 (Int32.toInt64 (nI m)) = Int32.toInt64 (nI m) <<< (Int32.toInt64 56 &&& 63) := by
  rcases (show m = 0 ∨ m = 1 ∨ m = 2 ∨ m = 3 ∨ m = 4 ∨ m = 5 ∨ m = 6 ∨ m = 7 by omega) with rfl | rfl | rfl | rfl | rfl | rfl | rfl | rfl <;> decide +kernel
theorem fetch_loop (S : hS) (s : mS) (n t m : Nat) (hn : n ≤ 6000) (hm : t + m ≤ n) (hm7 : m ≤ 7) (hS : S.2.1 202 7 = nI t) (hs : s.1 8 = nI t) (hb : ∀ j, j < n → S.2.2.2.2.1 8 j = s.2.2.1 25 j) : ∀ (k i fu : Nat) (x v : Int64), i + k = 7 → k < fu → ∃ w, l_Mo_fetch_40 fu v (nI m) (nI i) s = some w ∧ hl_An_takeNext_27 fu (nI m) (x ||| v) (nI i) S = some (shn k x ||| w) := by
  intro k
  induction k with
  | zero =>
    intro i fu x v hi hf
    obtain ⟨fu, rfl⟩ : ∃ f, fu = f + 1 := ⟨fu - 1, by omega⟩
    have h7 : (7 : Int32) ≤ nI i := (nI_le' (a := 7) (b := i) (by omega) (by omega)).mpr (by omega)
    refine ⟨v, ?_, ?_⟩
    · unfold l_Mo_fetch_40
      exact if_pos h7
    · unfold hl_An_takeNext_27
      exact if_pos h7
  | succ k ih =>
    intro i fu x v hi hf
    obtain ⟨fu, rfl⟩ : ∃ f, fu = f + 1 := ⟨fu - 1, by omega⟩
    have h7 : ¬ (7 : Int32) ≤ nI i := fun q => by
      have := (nI_le' (a := 7) (b := i) (by omega) (by omega)).mp q
      omega
    by_cases hmi : m ≤ i
    · have hc : nI m ≤ nI i := (nI_le' (by omega) (by omega)).mpr hmi
      obtain ⟨w, w1, w2⟩ := ih (i + 1) fu (sh8 x) (sh8 v ||| Int32.toInt64 0) (by omega) (by omega)
      refine ⟨w, ?_, ?_⟩
      · unfold l_Mo_fetch_40
        rw [if_neg h7, if_pos hc]
        show l_Mo_fetch_40 fu (sh8 v ||| Int32.toInt64 0) (nI m) (nI i + 1) s = _
        rw [nI_add1]; exact w1
      · unfold hl_An_takeNext_27
        rw [if_neg h7, if_pos hc]
        show hl_An_takeNext_27 fu (nI m) (sh8 (x ||| v)) (nI i + 1) S = _
        rw [nI_add1, sh8_or]
        rw [show Int32.toInt64 0 = 0 by decide, or0] at w2
        exact w2
    · have hc : ¬ nI m ≤ nI i := fun q => hmi ((nI_le' (by omega) (by omega)).mp q)
      have hti : nI t + nI i = nI (t + i) := am_nadd t i
      obtain ⟨w, w1, w2⟩ := ih (i + 1) fu (sh8 x) (sh8 v ||| Int32.toInt64 (s.2.2.1 25 (t + i) &&& 255)) (by omega) (by omega)
      refine ⟨w, ?_, ?_⟩
      · unfold l_Mo_fetch_40
        rw [if_neg h7, if_neg hc, hs, hti, ix_N (show t + i < 32768 by omega) (by omega)]
        show l_Mo_fetch_40 fu (sh8 v ||| Int32.toInt64 (s.2.2.1 25 (t + i) &&& 255)) (nI m) (nI i + 1) s = _
        rw [nI_add1]; exact w1
      · unfold hl_An_takeNext_27
        rw [if_neg h7, if_neg hc, hS, hti, ix_N (show t + i < 6000 by omega) (by omega)]
        show hl_An_takeNext_27 fu (nI m) (sh8 (x ||| v) ||| Int32.toInt64 (S.2.2.2.2.1 8 (t + i) &&& 255)) (nI i + 1) S = _
        rw [nI_add1, sh8_or, hb (t + i) (by omega), Int64.or_assoc]
        exact w2
/-- fetch, on both sides -/
theorem fetch_both (S : hS) (s : mS) (h : rAns S s) : ∃ r S' s', h_Ho_fetch S = some (r, S') ∧ d_Mo_fetch s = some (r, s') ∧ rAns S' s' ∧ hAg (fun k => k = 202) S S' ∧ mAg (fun k => k = 8) s s' := by
  obtain ⟨n, t, h1, h2, a1, a2, a3, a4, hb⟩ := h
  have hd : nI n - nI t = nI (n - t) := nI_sub (by omega) h2
  unfold h_Ho_fetch h_An_takeNext d_Mo_fetch
  rw [a1, a2, a3, a4, hd]
  have key : ∀ m, m ≤ 7 → t + m ≤ n → 0 < m → ∃ w, (l_Mo_fetch_40 100000 0 (nI m) 0 s) = some w ∧ hl_An_takeNext_27 100000 (nI m) (Int32.toInt64 (nI m)) 0 S = some (Int32.toInt64 (nI m) <<< (Int32.toInt64 56 &&& 63) ||| w) := by
    intro m m1 m2 m3
    obtain ⟨w, w1, w2⟩ := fetch_loop S s n t m h1 m2 m1 a3 a4 hb 7 0 100000 (Int32.toInt64 (nI m)) 0 rfl (by omega)
    rw [shn_56 m m1, or0] at w2
    exact ⟨w, w1, w2⟩
  by_cases h7 : 7 ≤ n - t
  · have c1 : (7 : Int32) ≤ nI (n - t) := (nI_le' (a := 7) (by omega) (by omega)).mpr h7
    have c2 : (if 7 < nI (n - t) then 7 else nI (n - t)) = nI 7 := by
      by_cases hq : (7 : Int32) < nI (n - t)
      · rw [if_pos hq]; rfl
      · rw [if_neg hq]
        have : n - t = 7 := by
          have : ¬ 7 < n - t := fun z => hq ((nI_lt' (a := 7) (b := n - t) (by omega) (by omega)).mpr z)
          omega
        rw [this]
    obtain ⟨w, w1, w2⟩ := key 7 (by omega) (by omega) (by omega)
    rw [c2, if_pos c1]
    refine ⟨(Int32.toInt64 (nI 7) <<< (Int32.toInt64 56 &&& 63) ||| w), hpI S 202 7 (nI (t + 7)), mI s 8 (nI (t + 7)), ?_, ?_, ⟨n, t + 7, h1, by omega, a1, a2, rfl, rfl, hb⟩, hAg.rf.put rfl, mAg.rf.put rfl⟩
    · rw [if_pos (show (0 : Int32) < nI 7 by decide), w2]
      show some _ = _
      rw [show nI t + nI 7 = nI (t + 7) from am_nadd t 7]
    · rw [Option.bind_some, if_pos (by decide)]
      have w1' : l_Mo_fetch_40 100000 0 7 0 s = some w := w1
      rw [w1']
      show some _ = _
      rw [show nI t + 7 = nI (t + 7) from am_nadd t 7]
      rfl
  · have c1 : ¬ (7 : Int32) ≤ nI (n - t) := fun q => h7 ((nI_le' (a := 7) (by omega) (by omega)).mp q)
    have c2 : (if 7 < nI (n - t) then 7 else nI (n - t)) = nI (n - t) := if_neg (fun q => by
      have := (nI_lt' (a := 7) (b := n - t) (by omega) (by omega)).mp q
      omega)
    rw [c2, if_neg c1]
    by_cases h0 : n - t = 0
    · rw [h0]
      refine ⟨0, S, s, ?_, ?_, ⟨n, t, h1, h2, a1, a2, a3, a4, hb⟩, hAg.rf, mAg.rf⟩
      · rw [if_neg (show ¬ (0 : Int32) < nI 0 by decide)]; rfl
      · rw [Option.bind_some, if_neg (by decide)]
    · obtain ⟨w, w1, w2⟩ := key (n - t) (by omega) (by omega) (by omega)
      have p1 : (0 : Int32) < nI (n - t) := (nI_lt' (a := 0) (by omega) (by omega)).mpr (by omega)
      refine ⟨(Int32.toInt64 (nI (n - t)) <<< (Int32.toInt64 56 &&& 63) ||| w), hpI S 202 7 (nI n), mI s 8 (nI n), ?_, ?_, ⟨n, n, h1, Nat.le_refl _, a1, a2, rfl, rfl, hb⟩, hAg.rf.put rfl, mAg.rf.put rfl⟩
      · rw [if_pos p1, w2]
        show some _ = _
        rw [show nI t + nI (n - t) = nI n by rw [am_nadd]; congr 1; omega]
      · rw [Option.bind_some, if_pos (nI_ne0 (by omega) (by omega)), w1]
        show some _ = _
        rw [show nI t + nI (n - t) = nI n by rw [am_nadd]; congr 1; omega]
