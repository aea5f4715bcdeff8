/-! The reference answers. -/
abbrev aI : List Nat := [7, 10, 15, 16, 25, 31, 32, 48, 53, 54]
abbrev aA : List Nat := [25, 28, 30, 36, 43, 44, 45, 48, 49, 50, 51, 52, 54, 55, 56, 57, 58]
abbrev aB : List Nat := [26, 27, 29, 31, 32, 34, 35, 37, 38, 46, 47, 53, 59]
theorem RS.ax {s s' : mS} {z : Z} {bs : List Int32} (h : RS s z bs) (w : mX [7, 53, 54] [52] [25] [] s s') {bs' : List Int32} (hA : AN s' bs') : RS s' z bs' := ⟨h.1.x5 w (by decide) (by decide) (by simp), h.2.1.x5 w (by decide) (by decide) (by simp) (by decide), h.2.2.1.x w (by decide) (by decide) (by simp), hA⟩
/-- the reference's head of an answer: 'OK', room for a word, the line's end; and whom it waits for -/
theorem d_head {n : Nat} {s : mS} {z : Z} {p k : Nat} {M : List Nat} (hR : RS s z []) (hO : okZ n z) (hk : k < 15) (hok : okM k M) (hT : TXT (s.2.2.1 24) M.length M) (h4 : s.1 4 = nI k) (h5 : s.1 5 = nI p) (hc0 : k = 6 → z.fm (sl M 15 4) = some (fmD z (sl M 15 4))) : ∃ s1 s2, d_Mo_putWord 79 75 0 0 0 s = some s1 ∧ s1.1 7 = nI 2 ∧ mX [7] [] [25] [] s s1 ∧ (∀ (F : Int32 → mS → Option mS), ((if ((s1.1 4) : Int32) = 5 then (some 1) else (if ¬ ((s1.1 4) : Int32) = 6 then (some 0) else (some 1))).bind fun (u10 : Int32) => ((if ¬ ((s1.1 4) : Int32) = 6 then (some (s1.1 5)) else ((d_Mo_memberAt 15 s1).bind fun q148 => (some q148))).bind fun (u14 : Int32) => ((if ¬ ((s1.1 4) : Int32) = 6 then ((d_Mo_packed 7 8 (mI s1 53 u14)).bind fun q125 => (some q125)) else ((d_Mo_packed 19 8 (mI s1 53 u14)).bind fun q136 => (some q136))).bind fun (u22 : Int64) => ((if (u10 : Int32) = 0 then (some (mI (mL (mI s1 53 u14) 52 u22) 54 0)) else ((d_Mo_putWord 32 46 46 46 46 (mI (mL (mI s1 53 u14) 52 u22) 54 0)).bind fun q115 => (some q115))).bind fun (u34 : mS) => ((d_Mo_put 10 u34).bind fun q41 => (F u10 q41)))))) = F (if k = 5 ∨ k = 6 then (1 : Int32) else 0) s2) ∧ AN s2 ((if k = 5 ∨ k = 6 then [nI 79, nI 75, nI 32, nI 46, nI 46, nI 46, nI 46] else [nI 79, nI 75]) ++ [nI 10]) ∧ mX [7, 53, 54] [52] [25] [] s s2 ∧ s2.1 54 = b2i false ∧ (∀ w nm, keyO z k p M = some (w, nm) → s2.1 53 = nI w ∧ s2.2.1 52 = lI (b256 nm : Nat)) := by
  have hN := hok.l123
  have hm := hO.mem
  obtain ⟨s1, a1, a2, a3⟩ := d_wd (a := 79) (b := 75) (c := 0) (d := 0) (e := 0) hR.2.2.2 (by show 0 + 5 < 32768; omega) (by omega) (by omega) (by omega) (by omega) (by omega)
  have a2' : AN s1 [nI 79, nI 75] := a2
  have k4 : s1.1 4 = nI k := by rw [a3.1 4 (by decide)]; exact h4
  have k5 : s1.1 5 = nI p := by rw [a3.1 5 (by decide)]; exact h5
  have T1 : TXT (s1.2.2.1 24) M.length M := by rw [a3.2.2.1 24 (by decide)]; exact hT
  have B1 : MB s1 z := hR.1.x5 a3 (by decide) (by decide) (by simp)
  -- who and what
  obtain ⟨W, NM, hW, hNM, hkey⟩ : ∃ (W : Nat) (NM : List Nat), (if ¬ ((s1.1 4) : Int32) = 6 then (some (s1.1 5)) else ((d_Mo_memberAt 15 s1).bind fun q148 => (some q148))) = some (nI W) ∧ (∀ v : Int32, (if ¬ ((s1.1 4) : Int32) = 6 then ((d_Mo_packed 7 8 (mI s1 53 v)).bind fun q125 => (some q125)) else ((d_Mo_packed 19 8 (mI s1 53 v)).bind fun q136 => (some q136))) = some (lI (b256 NM : Nat))) ∧ (∀ w nm, keyO z k p M = some (w, nm) → w = W ∧ nm = NM) := by
    rw [k4]
    have TT : ∀ v : Int32, TXT ((mI s1 53 v).2.2.1 24) M.length M := fun v => T1
    by_cases c : k = 6
    · have c2 : ¬ ¬ nI k = (6 : Int32) := fun q => q (by rw [c]; rfl)
      have hl : M.length = 17 + 12 := by subst c; exact hok.len
      have dm := d_mem T1 (by omega) B1 hm.2 hO.cod 15 (by omega)
      rw [hc0 c] at dm
      have dm' : d_Mo_memberAt 15 s1 = some (nI (fmD z (sl M 15 4))) := dm
      refine ⟨fmD z (sl M 15 4), sl M 19 8, by rw [if_neg c2, dm']; rfl, fun v => ?_, fun w nm h => ?_⟩
      · have dp : d_Mo_packed 19 8 (mI s1 53 v) = some (lI (b256 (sl M 19 8) : Nat)) := d_pck (TT v) (by omega) 19 8 (by omega) (by omega)
        rw [if_neg c2, dp]; rfl
      · unfold keyO at h
        rw [if_neg (by omega), if_pos c] at h
        cases h; exact ⟨rfl, rfl⟩
    · have c2 : ¬ nI k = (6 : Int32) := fun q => c (nI_inj (b := 6) (by omega) (by omega) q)
      refine ⟨p, sl M 7 8, by rw [if_pos c2, k5], fun v => ?_, fun w nm h => ?_⟩
      · have dp : d_Mo_packed 7 8 (mI s1 53 v) = some (lI (b256 (sl M 7 8) : Nat)) := d_pck (TT v) (by omega) 7 8 (by omega) (by omega)
        rw [if_pos c2, dp]; rfl
      · unfold keyO at h
        rw [if_neg c] at h
        by_cases c5 : k = 5
        · rw [if_pos c5] at h; cases h; exact ⟨rfl, rfl⟩
        · rw [if_neg c5] at h; cases h
  obtain ⟨s3, hs3⟩ : ∃ s3, s3 = mI (mL (mI s1 53 (nI W)) 52 (lI (b256 NM : Nat))) 54 0 := ⟨_, rfl⟩
  have w3 : mX [7, 53, 54] [52] [25] [] s1 s3 := by rw [hs3]; exact mX.I (mX.L (mX.I mX.rf (by decide)) (by decide)) (by decide)
  have w3' : mX [53, 54] [52] [] [] s1 s3 := by rw [hs3]; exact mX.I (mX.L (mX.I mX.rf (by decide)) (by decide)) (by decide)
  have e54 : s3.1 54 = b2i false := by rw [hs3]; simp [mI, va_up]; rfl
  have e53 : s3.1 53 = nI W := by rw [hs3]; simp [mI, mL, va_up]
  have e52 : s3.2.1 52 = lI (b256 NM : Nat) := by rw [hs3]; simp [mI, mL, va_up]
  have A3 : AN s3 [nI 79, nI 75] := a2'.x w3' (by decide) (by simp)
  have a3' : mX [7, 53, 54] [52] [25] [] s s1 := a3.mono (by decide) (by simp) (by simp) (by simp)
  have done : ∀ s4 bs, (if (if k = 5 ∨ k = 6 then (1 : Int32) else 0) = 0 then (some s3) else ((d_Mo_putWord 32 46 46 46 46 s3).bind fun q115 => (some q115))) = some s4 → AN s4 bs → bs.length < 100 → bs = (if k = 5 ∨ k = 6 then [nI 79, nI 75, nI 32, nI 46, nI 46, nI 46, nI 46] else [nI 79, nI 75]) → mX [7] [] [25] [] s3 s4 → ∃ s1 s2, d_Mo_putWord 79 75 0 0 0 s = some s1 ∧ s1.1 7 = nI 2 ∧ mX [7] [] [25] [] s s1 ∧ (∀ (F : Int32 → mS → Option mS), ((if ((s1.1 4) : Int32) = 5 then (some 1) else (if ¬ ((s1.1 4) : Int32) = 6 then (some 0) else (some 1))).bind fun (u10 : Int32) => ((if ¬ ((s1.1 4) : Int32) = 6 then (some (s1.1 5)) else ((d_Mo_memberAt 15 s1).bind fun q148 => (some q148))).bind fun (u14 : Int32) => ((if ¬ ((s1.1 4) : Int32) = 6 then ((d_Mo_packed 7 8 (mI s1 53 u14)).bind fun q125 => (some q125)) else ((d_Mo_packed 19 8 (mI s1 53 u14)).bind fun q136 => (some q136))).bind fun (u22 : Int64) => ((if (u10 : Int32) = 0 then (some (mI (mL (mI s1 53 u14) 52 u22) 54 0)) else ((d_Mo_putWord 32 46 46 46 46 (mI (mL (mI s1 53 u14) 52 u22) 54 0)).bind fun q115 => (some q115))).bind fun (u34 : mS) => ((d_Mo_put 10 u34).bind fun q41 => (F u10 q41)))))) = F (if k = 5 ∨ k = 6 then (1 : Int32) else 0) s2) ∧ AN s2 ((if k = 5 ∨ k = 6 then [nI 79, nI 75, nI 32, nI 46, nI 46, nI 46, nI 46] else [nI 79, nI 75]) ++ [nI 10]) ∧ mX [7, 53, 54] [52] [25] [] s s2 ∧ s2.1 54 = b2i false ∧ (∀ w nm, keyO z k p M = some (w, nm) → s2.1 53 = nI w ∧ s2.2.1 52 = lI (b256 nm : Nat)) := by
    intro s4 bs h1 h2 h3 hb h5'
    obtain ⟨s5, p1, p2, p3⟩ := d_put' h2 (by omega) (x := 10) (by omega)
    have p1' : d_Mo_put 10 s4 = some s5 := p1
    have x5 : mX [7] [] [25] [] s3 s5 := h5'.tr p3
    have u10 : (if (nI k : Int32) = 5 then (some 1) else (if ¬ (nI k : Int32) = 6 then (some 0) else (some 1))) = some (if k = 5 ∨ k = 6 then (1 : Int32) else 0) := by
      by_cases c5 : k = 5
      · rw [if_pos (show nI k = (5 : Int32) from by rw [c5]; rfl), if_pos (Or.inl c5)]
      · rw [if_neg (show ¬ nI k = (5 : Int32) from fun q => c5 (nI_inj (b := 5) (by omega) (by omega) q))]
        by_cases c6 : k = 6
        · rw [if_neg (show ¬ ¬ nI k = (6 : Int32) from fun q => q (by rw [c6]; rfl)), if_pos (Or.inr c6)]
        · rw [if_pos (show ¬ nI k = (6 : Int32) from fun q => c6 (nI_inj (b := 6) (by omega) (by omega) q)), if_neg (fun q => q.elim c5 c6)]
    refine ⟨s1, s5, a1, a2'.1, a3, fun F => ?_, by rw [← hb]; exact p2, a3'.tr (w3.tr (x5.mono (by decide) (by simp) (by simp) (by simp))), by rw [x5.1 54 (by decide)]; exact e54, fun w nm h => ?_⟩
    · rw [hW, k4, u10, Option.bind_some, Option.bind_some]
      have hNM' := hNM (nI W)
      rw [k4] at hNM'
      rw [hNM', Option.bind_some, ← hs3, h1, Option.bind_some, p1', Option.bind_some]
    · obtain ⟨r1, r2⟩ := hkey w nm h
      rw [x5.1 53 (by decide), x5.2.1 52 (by simp), r1, r2]
      exact ⟨e53, e52⟩
  by_cases c : k = 5 ∨ k = 6
  · obtain ⟨s4, b1, b2, b3⟩ := d_wd (a := 32) (b := 46) (c := 46) (d := 46) (e := 46) A3 (by show 2 + 5 < 32768; omega) (by omega) (by omega) (by omega) (by omega) (by omega)
    have b1' : d_Mo_putWord 32 46 46 46 46 s3 = some s4 := b1
    have b2' : AN s4 [nI 79, nI 75, nI 32, nI 46, nI 46, nI 46, nI 46] := b2
    exact done s4 _ (by rw [if_pos c, if_neg (by decide), b1']; rfl) b2' (by show 7 < 100; omega) (by rw [if_pos c]) b3
  · exact done s3 _ (by rw [if_neg c, if_pos (by decide)]) A3 (by show 2 < 100; omega) (by rw [if_neg c]) mX.rf
