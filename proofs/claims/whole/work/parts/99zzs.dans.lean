/-! The reference does, settles, answers. -/
theorem DE.rs {s s' : mS} {z z' : Z} {bs : List Int32} (h : RS s z bs) (d : DE s s' z') : RS s' z' bs := ⟨d.1, d.2.1, h.2.2.1.x d.2.2 (by decide) (by decide) (by decide), h.2.2.2.x d.2.2 (by decide) (by decide)⟩
/-- what settles by it, and what is told -/
theorem d_mid {n : Nat} (hn : n ≤ 512) {s : mS} {z : Z} {bs : List Int32} {q : List Ins} {k : Nat} (hk : k < 13) (h4 : s.1 4 = nI k) (hR : RS s z bs) (hO : okZ n z) (hG : good z) (hq : z.isq q) (hna : k < 2 → z.fst (fun _ => false) q = none) (h54 : s.1 54 = b2i false) (hl : bs.length ≤ 100) : ∃ s', (if ¬ ((s.1 4) : Int32) = 13 then (if ((s.1 4) : Int32) = 0 then (some s) else (if ((s.1 4) : Int32) = 1 then (some s) else ((d_Mo_settle s).bind fun q96 => (some q96)))) else ((d_Mo_resolve s).bind fun q105 => (some q105))) = some s' ∧ RS s' (setl 250 z q).1 (bs ++ evs z (setl 250 z q).2.2) ∧ okZ n (setl 250 z q).1 ∧ good (setl 250 z q).1 ∧ (setl 250 z q).1.isq (setl 250 z q).2.1 ∧ (setl 250 z q).1.fst (fun _ => false) (setl 250 z q).2.1 = none ∧ (∀ w nm, ST s w nm → w < 256 → nm.length = 8 → is36 nm → s'.1 54 = b2i ((setl 250 z q).2.2.any fun i => decide (i.who = w ∧ i.nm = nm))) ∧ mX kI [] kA kB s s' ∧ ∃ b, s'.1 54 = b2i b := by
  have hil := hO.ins
  rw [h4, if_pos (show ¬ nI k = (13 : Int32) from fun c => by have := nI_inj (b := 13) (by omega) (by omega) c; omega)]
  by_cases c : k < 2
  · have hs := hna c
    rw [setl_none hs]
    refine ⟨s, ?_, ?_, hO, hG, hq, hs, fun _ _ _ _ _ _ => h54, mX.rf, ⟨false, h54⟩⟩
    · by_cases c0 : k = 0
      · rw [if_pos (show nI k = (0 : Int32) from by rw [c0]; rfl)]
      · rw [if_neg (show ¬ nI k = (0 : Int32) from fun q => c0 ((nI_e0 (by omega)).mp q)), if_pos (show nI k = (1 : Int32) from by rw [show k = 1 by omega]; rfl)]
    · show RS s z (bs ++ [])
      rw [List.append_nil]; exact hR
  · obtain ⟨s', b', r1, r2, r3, r4, r5, r6, r7, r8⟩ := d_settle hn hR hO hG hq h54 (by omega)
    refine ⟨s', ?_, r2, r3, r4, r5, r6, fun w nm h1 h2 h3 h4 => ?_, r8, ⟨b', r7.1⟩⟩
    · rw [if_neg (show ¬ nI k = (0 : Int32) from fun q => by have := (nI_e0 (by omega)).mp q; omega), if_neg (show ¬ nI k = (1 : Int32) from fun q => by have := nI_inj (b := 1) (by omega) (by omega) q; omega), r1]; rfl
    · have := r7.2 w nm h1 h2 h3 h4
      rw [r7.1, this, Bool.false_or]
theorem d_ans {n : Nat} {s : mS} {z : Z} {p k : Nat} {M : List Nat} {q2 : List Ins} (hR : RS s z []) (hO : okZ n z) (hG : good z) (hn : n + 1 ≤ 512) (hk : k < 13) (hok : okM k M) (hT : TXT (s.2.2.1 24) M.length M) (hp : p < z.mem.length) (h4 : s.1 4 = nI k) (h5 : s.1 5 = nI p) (hc0 : cdF z (cds k M) = 0) (hv : vMat z k p M = 0) (hu : k = 5 → ∀ j ∈ z.ins, ¬ (j.who = p ∧ j.nm = sl M 7 8)) (hq2 : (eff z k p M).isq q2) (hna : k < 2 → (eff z k p M).fst (fun _ => false) q2 = none) : ∃ s', d_Mo_answers s = some s' ∧ RS s' (setl 250 (eff z k p M) q2).1 (txt (okw (setl 250 (eff z k p M) q2).1 (setl 250 (eff z k p M) q2).2.2 (keyO z k p M)) ++ [nI 10] ++ evs (eff z k p M) (setl 250 (eff z k p M) q2).2.2) ∧ okZ (n + 1) (setl 250 (eff z k p M) q2).1 ∧ good (setl 250 (eff z k p M) q2).1 ∧ (setl 250 (eff z k p M) q2).1.isq (setl 250 (eff z k p M) q2).2.1 ∧ (setl 250 (eff z k p M) q2).1.fst (fun _ => false) (setl 250 (eff z k p M) q2).2.1 = none ∧ mX aI [45, 52] aA aB s s' ∧ ∃ b, s'.1 54 = b2i b := by
  have hN := hok.l123
  have hm := hO.mem
  obtain ⟨O2, G2⟩ := eff_ok hO hG (by omega) hok hT.m36 hp hc0 hv hu
  obtain ⟨s1, s2, a1, a2, a3, a4, a5, a6, a7, a8⟩ := d_head hR hO (by omega) hok hT h4 h5 (fun c => by subst c; exact cdO_m (cdF_0 hc0 (false, sl M 15 4) (by simp [cds])))
  have R2 : RS s2 z _ := hR.ax a6 a5
  have T2 : TXT (s2.2.2.1 24) M.length M := by rw [a6.2.2.1 24 (by decide)]; exact hT
  have k4 : s2.1 4 = nI k := by rw [a6.1 4 (by decide)]; exact h4
  obtain ⟨s3, e1, e2⟩ := d_eff R2.1 R2.2.1 hO hk hok T2 hp k4 (by rw [a6.1 5 (by decide)]; exact h5) hc0 hv
  have R3 := DE.rs R2 e2
  have k43 : s3.1 4 = nI k := by rw [e2.2.2.1 4 (by decide)]; exact k4
  obtain ⟨s4, m1, m2, m3, m4, m5, m6, m7, m8, m9⟩ := d_mid hn hk k43 R3 O2 G2 hq2 hna (by rw [e2.2.2.1 54 (by decide)]; exact a7) (by split <;> simp)
  have dc := d_check m2.1 m3 hn m4
  have w24 : mX aI [45, 52] aA aB s s4 := (a6.mono (by decide) (by decide) (by decide) (by simp)).tr ((e2.2.2.mono (by decide) (by decide) (by decide) (by decide)).tr (m8.mono (by decide) (by simp) (by decide) (by decide)))
  -- all but the word
  have body : ∀ (s5 : mS), (if ¬ ((if k = 5 ∨ k = 6 then (1 : Int32) else 0) : Int32) = 0 then ((d_Mo_ends (s4.1 53) (s4.2.1 52) (mI s4 7 ((s1.1 7) + 1))).bind fun q80 => (some (mI q80 7 (s4.1 7)))) else (some s4)) = some s5 → d_Mo_answers s = some s5 := fun s5 h => by
    unfold d_Mo_answers
    rw [a1, Option.bind_some]
    refine (a4 (fun u10 q41 => (d_Mo_does q41).bind fun q50 => ((if ¬ ((q50.1 4) : Int32) = 13 then (if ((q50.1 4) : Int32) = 0 then (some q50) else (if ((q50.1 4) : Int32) = 1 then (some q50) else ((d_Mo_settle q50).bind fun q96 => (some q96)))) else ((d_Mo_resolve q50).bind fun q105 => (some q105))).bind fun (u59 : mS) => ((d_Mo_check u59).bind fun q66 => (if ¬ (u10 : Int32) = 0 then ((d_Mo_ends (q66.1 53) (q66.2.1 52) (mI q66 7 ((s1.1 7) + 1))).bind fun q80 => (some (mI q80 7 (q66.1 7)))) else (some q66)))))).trans ?_
    show ((d_Mo_does s2).bind fun q50 => _) = _
    rw [e1, Option.bind_some, m1, Option.bind_some, dc, Option.bind_some]
    exact h
  by_cases c : k = 5 ∨ k = 6
  · obtain ⟨w, nm, hkey, hw, hnm, h36⟩ : ∃ w nm, keyO z k p M = some (w, nm) ∧ w < 256 ∧ nm.length = 8 ∧ is36 nm := by
      unfold keyO
      by_cases c5 : k = 5
      · rw [if_pos c5]
        exact ⟨_, _, rfl, by omega, sl_len (by omega), sl_36 hT.m36 _ _⟩
      · have c6 : k = 6 := by omega
        have hl : M.length = 17 + 12 := by subst c6; exact hok.len
        rw [if_neg c5, if_pos c6]
        refine ⟨_, _, rfl, ?_, sl_len (by omega), sl_36 hT.m36 _ _⟩
        subst c6
        have := (fm_lt (cdO_m (cdF_0 hc0 (false, sl M 15 4) (by simp [cds])))).1
        omega
    obtain ⟨k53, k52⟩ := a8 w nm hkey
    have f53 : s3.1 53 = nI w := by rw [e2.2.2.1 53 (by decide)]; exact k53
    have f52 : s3.2.1 52 = lI (b256 nm : Nat) := by rw [e2.2.2.2.1 52 (by decide)]; exact k52
    have h54 := m7 w nm ⟨f53, f52⟩ hw hnm h36
    have A4 := m2.2.2.2
    rw [if_pos c, List.append_assoc] at A4
    obtain ⟨s5, d1, d2, d3⟩ := d_ends m2.2.1 m3 A4 hw hnm h36 (by rw [m8.1 53 (by decide)]; exact f53) (by rw [m8.2.1 52 (by simp)]; exact f52) h54
    rw [← List.append_assoc] at d2
    refine ⟨s5, body s5 ?_, ?_, m3, m4, m5, m6, w24.tr (d3.mono (by decide) (by simp) (by decide) (by simp)), by rw [d3.1 54 (by decide)]; exact m9⟩
    · rw [if_pos c, if_pos (by decide), a2]
      exact d1
    · rw [hkey]
      exact m2.ax (d3.mono (by decide) (by simp) (by simp) (by simp)) d2
  · refine ⟨s4, body s4 ?_, ?_, m3, m4, m5, m6, w24, m9⟩
    · rw [if_neg c, if_neg (by decide)]
    · have hkey : keyO z k p M = none := by
        unfold keyO
        rw [if_neg (fun q => c (Or.inl q)), if_neg (fun q => c (Or.inr q))]
      rw [hkey]
      have A4 := m2
      rw [if_neg c] at A4
      exact A4
