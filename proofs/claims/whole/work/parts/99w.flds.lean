/-! The class reads the fields of each kind. -/
theorem sl_7 : am_sl 7 = some (nI 1) := by decide +kernel
theorem sc_7_0 : am_sc 7 (nI 0) = some 110 := by decide +kernel
theorem sl_8 : am_sl 8 = some (nI 4) := by decide +kernel
theorem sc_8_0 : am_sc 8 (nI 0) = some 109 := by decide +kernel
theorem sc_8_1 : am_sc 8 (nI 1) = some 115 := by decide +kernel
theorem sc_8_2 : am_sc 8 (nI 2) = some 118 := by decide +kernel
theorem sc_8_3 : am_sc 8 (nI 3) = some 104 := by decide +kernel
theorem sl_9 : am_sl 9 = some (nI 3) := by decide +kernel
theorem sc_9_0 : am_sc 9 (nI 0) = some 97 := by decide +kernel
theorem sc_9_1 : am_sc 9 (nI 1) = some 118 := by decide +kernel
theorem sc_9_2 : am_sc 9 (nI 2) = some 104 := by decide +kernel
theorem sl_10 : am_sl 10 = some (nI 3) := by decide +kernel
theorem sc_10_0 : am_sc 10 (nI 0) = some 97 := by decide +kernel
theorem sc_10_1 : am_sc 10 (nI 1) = some 112 := by decide +kernel
theorem sc_10_2 : am_sc 10 (nI 2) = some 118 := by decide +kernel
theorem sl_11 : am_sl 11 = some (nI 2) := by decide +kernel
theorem sc_11_0 : am_sc 11 (nI 0) = some 121 := by decide +kernel
theorem sc_11_1 : am_sc 11 (nI 1) = some 108 := by decide +kernel
theorem sl_12 : am_sl 12 = some (nI 2) := by decide +kernel
theorem sc_12_0 : am_sc 12 (nI 0) = some 112 := by decide +kernel
theorem sc_12_1 : am_sc 12 (nI 1) = some 114 := by decide +kernel
theorem sl_13 : am_sl 13 = some (nI 1) := by decide +kernel
theorem sc_13_0 : am_sc 13 (nI 0) = some 114 := by decide +kernel
theorem sl_14 : am_sl 14 = some (nI 2) := by decide +kernel
theorem sc_14_0 : am_sc 14 (nI 0) = some 114 := by decide +kernel
theorem sc_14_1 : am_sc 14 (nI 1) = some 121 := by decide +kernel
theorem sl_15 : am_sl 15 = some (nI 2) := by decide +kernel
theorem sc_15_0 : am_sc 15 (nI 0) = some 112 := by decide +kernel
theorem sc_15_1 : am_sc 15 (nI 1) = some 118 := by decide +kernel
theorem sl_16 : am_sl 16 = some (nI 1) := by decide +kernel
theorem sc_16_0 : am_sc 16 (nI 0) = some 112 := by decide +kernel
theorem sl_17 : am_sl 17 = some (nI 2) := by decide +kernel
theorem sc_17_0 : am_sc 17 (nI 0) = some 97 := by decide +kernel
theorem sc_17_1 : am_sc 17 (nI 1) = some 118 := by decide +kernel
theorem sl_18 : am_sl 18 = some (nI 0) := by decide +kernel
theorem flds_0 {S : hS} {M : List Nat} (r0 : RQ S M 15 [] []) (t0 : S.2.1 803 2 = 1) : ∃ S', h_Me_readFields 7 S = some S' ∧ fX S S' ∧ (((15 + fLen 0 M + 2 ≤ M.length ∧ fOk 0 M) ∧ RQ S' M (15 + fLen 0 M) (cds 0 M) (ams 0 M) ∧ oth 0 M S' ∧ S'.2.1 803 2 = 1) ∨ (¬ (15 + fLen 0 M + 2 ≤ M.length ∧ fOk 0 M) ∧ S'.2.1 803 2 = 0)) := by
  obtain ⟨Q, hQ⟩ : ∃ Q : Option hS → Prop, Q = fun o => ∃ S', o = some S' ∧ fX S S' ∧ (((15 + fLen 0 M + 2 ≤ M.length ∧ fOk 0 M) ∧ RQ S' M (15 + fLen 0 M) (cds 0 M) (ams 0 M) ∧ oth 0 M S' ∧ S'.2.1 803 2 = 1) ∨ (¬ (15 + fLen 0 M + 2 ≤ M.length ∧ fOk 0 M) ∧ S'.2.1 803 2 = 0)) := ⟨_, rfl⟩
  have hbad : ∀ S', fX S S' → S'.2.1 803 2 = 0 → ¬ (15 + fLen 0 M + 2 ≤ M.length ∧ fOk 0 M) → Q (some S') := fun S' a b c => by rw [hQ]; exact ⟨S', rfl, a, Or.inr ⟨c, b⟩⟩
  have key : Q (hl_Me_readFields_2 100000 7 (nI 0) S) := by
    show Q (hl_Me_readFields_2 (99999 + 1) 7 (nI 0) S)
    rcases h_rc r0.rd 4 (by omega) with ⟨q1, U1, e1, d1, u1, y1⟩ | ⟨q1, U1, g1, e1, d1, u1, y1⟩
    case inr =>
      refine ff_n sl_7 sc_7_0 (by omega) (by omega) t0 e1 ?_
      have z1 : hX [802, 803, 814] [] [] [] [] [] S (hpI U1 814 2 (Int64.toInt32 0)) := (y1.mono (by decide) (by simp) (by simp) (by simp) (by simp) (by simp)).pI (by decide)
      have zz1 : fX S (hpI U1 814 2 (Int64.toInt32 0)) := (z1.mono (by decide) (by decide) (by simp) (by simp) (by simp) (by simp))
      have u0 : (hpI U1 814 2 (Int64.toInt32 0)).2.1 803 2 = 0 := by rw [← u1]; simp [hpI, hpL, up2]
      exact ff_x sl_7 u0 (hbad _ zz1 u0 (fun c => q1 (by have := c.1; simp only [fLen] at this; omega)))
    refine ff_n sl_7 sc_7_0 (by omega) (by omega) t0 e1 ?_
    obtain ⟨S1, hS1⟩ : ∃ X, X = hpI U1 814 2 (Int64.toInt32 (lI (b36 (sl M 15 4) : Nat))) := ⟨_, rfl⟩
    rw [← hS1]
    have v1 : hX [802, 803, 814] [] [] [] [] [] S S1 := by rw [hS1]; exact (y1.mono (by decide) (by simp) (by simp) (by simp) (by simp) (by simp)).pI (by decide)
    have w1x : fX S S1 := (v1.mono (by decide) (by decide) (by simp) (by simp) (by simp) (by simp))
    have x802_1 : S1.2.1 802 2 = nI 19 := by rw [hS1]; refine Eq.trans ?_ d1.at; simp [hpI, hpL, up2]
    have r1' : RQ S1 M 19 [] [] := r0.p v1 (by decide) (r0.rd.x (v1.mono (by decide) (by decide) (by simp) (by simp) (by simp) (by simp)) x802_1 (by have := d1.le; omega))
    have t1 : S1.2.1 803 2 = 1 := by rw [hS1]; refine Eq.trans ?_ (u1.trans t0); simp [hpI, hpL, up2]
    have o814_1 : S1.2.1 814 2 = nI (b36 (sl M 15 4)) := by rw [hS1, lI_to32]; simp [hpI, up2]
    show Q (hl_Me_readFields_2 (99998 + 1) 7 (nI 1) S1)
    refine ff_end sl_7 (by omega) (by omega) (by omega) ?_
    rw [hQ]
    exact ⟨S1, rfl, w1x, Or.inl ⟨⟨by have := r1'.rd.le; simp only [fLen]; omega, trivial⟩, r1', o814_1, t1⟩⟩
  rw [hQ] at key
  obtain ⟨S', e, w, z⟩ := key
  refine ⟨S', ?_, w, z⟩
  unfold h_Me_readFields
  have e' : hl_Me_readFields_2 100000 7 0 S = some S' := e
  rw [e']; rfl
theorem flds_1 {S : hS} {M : List Nat} (r0 : RQ S M 15 [] []) (t0 : S.2.1 803 2 = 1) : ∃ S', h_Me_readFields 8 S = some S' ∧ fX S S' ∧ (((15 + fLen 1 M + 2 ≤ M.length ∧ fOk 1 M) ∧ RQ S' M (15 + fLen 1 M) (cds 1 M) (ams 1 M) ∧ oth 1 M S' ∧ S'.2.1 803 2 = 1) ∨ (¬ (15 + fLen 1 M + 2 ≤ M.length ∧ fOk 1 M) ∧ S'.2.1 803 2 = 0)) := by
  obtain ⟨Q, hQ⟩ : ∃ Q : Option hS → Prop, Q = fun o => ∃ S', o = some S' ∧ fX S S' ∧ (((15 + fLen 1 M + 2 ≤ M.length ∧ fOk 1 M) ∧ RQ S' M (15 + fLen 1 M) (cds 1 M) (ams 1 M) ∧ oth 1 M S' ∧ S'.2.1 803 2 = 1) ∨ (¬ (15 + fLen 1 M + 2 ≤ M.length ∧ fOk 1 M) ∧ S'.2.1 803 2 = 0)) := ⟨_, rfl⟩
  have hbad : ∀ S', fX S S' → S'.2.1 803 2 = 0 → ¬ (15 + fLen 1 M + 2 ≤ M.length ∧ fOk 1 M) → Q (some S') := fun S' a b c => by rw [hQ]; exact ⟨S', rfl, a, Or.inr ⟨c, b⟩⟩
  have key : Q (hl_Me_readFields_2 100000 8 (nI 0) S) := by
    show Q (hl_Me_readFields_2 (99999 + 1) 8 (nI 0) S)
    rcases h_rc r0.rd 3 (by omega) with ⟨q1, U1, e1, d1, u1, y1⟩ | ⟨q1, U1, g1, e1, d1, u1, y1⟩
    case inr =>
      refine ff_m sl_8 sc_8_0 (by omega) (by omega) t0 e1 ?_
      have z1 : hX [802, 803, 814] [] [] [] [] [] S (hpI U1 814 2 (Int64.toInt32 0)) := (y1.mono (by decide) (by simp) (by simp) (by simp) (by simp) (by simp)).pI (by decide)
      have zz1 : fX S (hpI U1 814 2 (Int64.toInt32 0)) := (z1.mono (by decide) (by decide) (by simp) (by simp) (by simp) (by simp))
      have u0 : (hpI U1 814 2 (Int64.toInt32 0)).2.1 803 2 = 0 := by rw [← u1]; simp [hpI, hpL, up2]
      exact ff_x sl_8 u0 (hbad _ zz1 u0 (fun c => q1 (by have := c.1; simp only [fLen] at this; omega)))
    refine ff_m sl_8 sc_8_0 (by omega) (by omega) t0 e1 ?_
    obtain ⟨S1, hS1⟩ : ∃ X, X = hpI U1 814 2 (Int64.toInt32 (lI (b36 (sl M 15 3) : Nat))) := ⟨_, rfl⟩
    rw [← hS1]
    have v1 : hX [802, 803, 814] [] [] [] [] [] S S1 := by rw [hS1]; exact (y1.mono (by decide) (by simp) (by simp) (by simp) (by simp) (by simp)).pI (by decide)
    have w1x : fX S S1 := (v1.mono (by decide) (by decide) (by simp) (by simp) (by simp) (by simp))
    have x802_1 : S1.2.1 802 2 = nI 18 := by rw [hS1]; refine Eq.trans ?_ d1.at; simp [hpI, hpL, up2]
    have r1' : RQ S1 M 18 [] [] := r0.p v1 (by decide) (r0.rd.x (v1.mono (by decide) (by decide) (by simp) (by simp) (by simp) (by simp)) x802_1 (by have := d1.le; omega))
    have t1 : S1.2.1 803 2 = 1 := by rw [hS1]; refine Eq.trans ?_ (u1.trans t0); simp [hpI, hpL, up2]
    have o814_1 : S1.2.1 814 2 = nI (b36 (sl M 15 3)) := by rw [hS1, lI_to32]; simp [hpI, up2]
    show Q (hl_Me_readFields_2 (99998 + 1) 8 (nI 1) S1)
    obtain ⟨S2, e2, v2, b2⟩ := q_rs r1'.rd t1
    refine ff_s sl_8 sc_8_1 (by omega) (by omega) t1 e2 ?_
    have w2x : fX S S2 := (w1x.tr (v2.mono (by decide) (by simp) (by simp) (by simp) (by simp) (by simp)))
    rcases b2 with ⟨q2, qq2, d2, t2, o815_2⟩ | ⟨q2, u2⟩
    case inr => exact ff_x sl_8 u2 (hbad S2 w2x u2 (fun c => q2 ⟨by have := c.1; simp only [fLen] at this; omega, c.2.1⟩))
    have r2' : RQ S2 M 19 [] [] := r1'.p v2 (by decide) d2
    have o814_2 : S2.2.1 814 2 = nI (b36 (sl M 15 3)) := (v2.ei _ (by decide) _).trans o814_1
    show Q (hl_Me_readFields_2 (99997 + 1) 8 (nI 2) S2)
    obtain ⟨S3, e3, v3, n3, b3⟩ := q_ra r2' (by simp)
    refine ff_v sl_8 sc_8_2 (by omega) (by omega) t2 e3 ?_
    have w3x : fX S S3 := (w2x.tr v3.f)
    rcases b3 with ⟨q3, r3, u3⟩ | ⟨q3, u3⟩
    case inr => exact ff_x sl_8 u3 (hbad S3 w3x u3 (fun c => q3 ⟨by have := c.1; simp only [fLen] at this; omega, c.2.2.1⟩))
    have r3' : RQ S3 M 34 [] [sl M 19 15] := r3
    have t3 : S3.2.1 803 2 = 1 := u3.trans t2
    have o814_3 : S3.2.1 814 2 = nI (b36 (sl M 15 3)) := (v3.ei _ (by decide) _).trans o814_2
    have o815_3 : S3.2.1 815 2 = b2i (decide (M.getD 18 0 = 28)) := (v3.ei _ (by decide) _).trans o815_2
    show Q (hl_Me_readFields_2 (99996 + 1) 8 (nI 3) S3)
    rcases h_rd r3'.rd 2 (by omega) with ⟨q4, U4, e4, d4, u4, y4⟩ | ⟨q4, U4, g4, e4, d4, u4, y4⟩
    case inr =>
      refine ff_h sl_8 sc_8_3 (by omega) (by omega) t3 e4 ?_
      have z4 : hX [802, 803, 816] [] [] [] [] [] S3 (hpI U4 816 2 (Int64.toInt32 0)) := (y4.mono (by decide) (by simp) (by simp) (by simp) (by simp) (by simp)).pI (by decide)
      have zz4 : fX S (hpI U4 816 2 (Int64.toInt32 0)) := (w3x.tr (z4.mono (by decide) (by decide) (by simp) (by simp) (by simp) (by simp)))
      have u0 : (hpI U4 816 2 (Int64.toInt32 0)).2.1 803 2 = 0 := by rw [← u4]; simp [hpI, up2]
      exact ff_x sl_8 u0 (hbad _ zz4 u0 (fun c => q4 ⟨by have := c.1; simp only [fLen] at this; omega, c.2.2.2⟩))
    refine ff_h sl_8 sc_8_3 (by omega) (by omega) t3 e4 ?_
    obtain ⟨S4, hS4⟩ : ∃ X, X = hpI U4 816 2 (Int64.toInt32 (lI (num (sl M 34 2) : Nat))) := ⟨_, rfl⟩
    rw [← hS4]
    have v4 : hX [802, 803, 816] [] [] [] [] [] S3 S4 := by rw [hS4]; exact (y4.mono (by decide) (by simp) (by simp) (by simp) (by simp) (by simp)).pI (by decide)
    have w4x : fX S S4 := (w3x.tr (v4.mono (by decide) (by decide) (by simp) (by simp) (by simp) (by simp)))
    have x802_4 : S4.2.1 802 2 = nI 36 := by rw [hS4]; refine Eq.trans ?_ d4.at; simp [hpI, up2]
    have r4' : RQ S4 M 36 [] [sl M 19 15] := r3'.p v4 (by decide) (r3'.rd.x (v4.mono (by decide) (by decide) (by simp) (by simp) (by simp) (by simp)) x802_4 (by have := d4.le; omega))
    have t4 : S4.2.1 803 2 = 1 := by rw [hS4]; refine Eq.trans ?_ (u4.trans t3); simp [hpI, up2]
    have o814_4 : S4.2.1 814 2 = nI (b36 (sl M 15 3)) := (v4.ei _ (by decide) _).trans o814_3
    have o815_4 : S4.2.1 815 2 = b2i (decide (M.getD 18 0 = 28)) := (v4.ei _ (by decide) _).trans o815_3
    have o816_4 : S4.2.1 816 2 = nI (num (sl M 34 2)) := by rw [hS4, lI_to32]; simp [hpI, up2]
    show Q (hl_Me_readFields_2 (99995 + 1) 8 (nI 4) S4)
    refine ff_end sl_8 (by omega) (by omega) (by omega) ?_
    rw [hQ]
    exact ⟨S4, rfl, w4x, Or.inl ⟨⟨by have := r4'.rd.le; simp only [fLen]; omega, ⟨qq2, q3.2, q4.2⟩⟩, r4', ⟨o814_4, o815_4, o816_4⟩, t4⟩⟩
  rw [hQ] at key
  obtain ⟨S', e, w, z⟩ := key
  refine ⟨S', ?_, w, z⟩
  unfold h_Me_readFields
  have e' : hl_Me_readFields_2 100000 8 0 S = some S' := e
  rw [e']; rfl
theorem flds_2 {S : hS} {M : List Nat} (r0 : RQ S M 15 [] []) (t0 : S.2.1 803 2 = 1) : ∃ S', h_Me_readFields 9 S = some S' ∧ fX S S' ∧ (((15 + fLen 2 M + 2 ≤ M.length ∧ fOk 2 M) ∧ RQ S' M (15 + fLen 2 M) (cds 2 M) (ams 2 M) ∧ oth 2 M S' ∧ S'.2.1 803 2 = 1) ∨ (¬ (15 + fLen 2 M + 2 ≤ M.length ∧ fOk 2 M) ∧ S'.2.1 803 2 = 0)) := by
  obtain ⟨Q, hQ⟩ : ∃ Q : Option hS → Prop, Q = fun o => ∃ S', o = some S' ∧ fX S S' ∧ (((15 + fLen 2 M + 2 ≤ M.length ∧ fOk 2 M) ∧ RQ S' M (15 + fLen 2 M) (cds 2 M) (ams 2 M) ∧ oth 2 M S' ∧ S'.2.1 803 2 = 1) ∨ (¬ (15 + fLen 2 M + 2 ≤ M.length ∧ fOk 2 M) ∧ S'.2.1 803 2 = 0)) := ⟨_, rfl⟩
  have hbad : ∀ S', fX S S' → S'.2.1 803 2 = 0 → ¬ (15 + fLen 2 M + 2 ≤ M.length ∧ fOk 2 M) → Q (some S') := fun S' a b c => by rw [hQ]; exact ⟨S', rfl, a, Or.inr ⟨c, b⟩⟩
  have key : Q (hl_Me_readFields_2 100000 9 (nI 0) S) := by
    show Q (hl_Me_readFields_2 (99999 + 1) 9 (nI 0) S)
    obtain ⟨S1, e1, v1, n1, b1⟩ := q_rk r0 true (by simp)
    refine ff_a sl_9 sc_9_0 (by omega) (by omega) t0 e1 ?_
    have w1x : fX S S1 := v1.f
    rcases b1 with ⟨q1, r1, u1⟩ | ⟨q1, u1, _⟩
    case inr => exact ff_x sl_9 u1 (hbad S1 w1x u1 (fun c => q1 (by have := c.1; simp only [fLen] at this; show 15 + 3 + 2 ≤ M.length; omega)))
    have r1' : RQ S1 M 18 [(true, sl M 15 3)] [] := r1
    have t1 : S1.2.1 803 2 = 1 := u1.trans t0
    show Q (hl_Me_readFields_2 (99998 + 1) 9 (nI 1) S1)
    obtain ⟨S2, e2, v2, n2, b2⟩ := q_ra r1' (by simp)
    refine ff_v sl_9 sc_9_1 (by omega) (by omega) t1 e2 ?_
    have w2x : fX S S2 := (w1x.tr v2.f)
    rcases b2 with ⟨q2, r2, u2⟩ | ⟨q2, u2⟩
    case inr => exact ff_x sl_9 u2 (hbad S2 w2x u2 (fun c => q2 ⟨by have := c.1; simp only [fLen] at this; omega, c.2.1⟩))
    have r2' : RQ S2 M 33 [(true, sl M 15 3)] [sl M 18 15] := r2
    have t2 : S2.2.1 803 2 = 1 := u2.trans t1
    show Q (hl_Me_readFields_2 (99997 + 1) 9 (nI 2) S2)
    rcases h_rd r2'.rd 2 (by omega) with ⟨q3, U3, e3, d3, u3, y3⟩ | ⟨q3, U3, g3, e3, d3, u3, y3⟩
    case inr =>
      refine ff_h sl_9 sc_9_2 (by omega) (by omega) t2 e3 ?_
      have z3 : hX [802, 803, 816] [] [] [] [] [] S2 (hpI U3 816 2 (Int64.toInt32 0)) := (y3.mono (by decide) (by simp) (by simp) (by simp) (by simp) (by simp)).pI (by decide)
      have zz3 : fX S (hpI U3 816 2 (Int64.toInt32 0)) := (w2x.tr (z3.mono (by decide) (by decide) (by simp) (by simp) (by simp) (by simp)))
      have u0 : (hpI U3 816 2 (Int64.toInt32 0)).2.1 803 2 = 0 := by rw [← u3]; simp [hpI, up2]
      exact ff_x sl_9 u0 (hbad _ zz3 u0 (fun c => q3 ⟨by have := c.1; simp only [fLen] at this; omega, c.2.2⟩))
    refine ff_h sl_9 sc_9_2 (by omega) (by omega) t2 e3 ?_
    obtain ⟨S3, hS3⟩ : ∃ X, X = hpI U3 816 2 (Int64.toInt32 (lI (num (sl M 33 2) : Nat))) := ⟨_, rfl⟩
    rw [← hS3]
    have v3 : hX [802, 803, 816] [] [] [] [] [] S2 S3 := by rw [hS3]; exact (y3.mono (by decide) (by simp) (by simp) (by simp) (by simp) (by simp)).pI (by decide)
    have w3x : fX S S3 := (w2x.tr (v3.mono (by decide) (by decide) (by simp) (by simp) (by simp) (by simp)))
    have x802_3 : S3.2.1 802 2 = nI 35 := by rw [hS3]; refine Eq.trans ?_ d3.at; simp [hpI, up2]
    have r3' : RQ S3 M 35 [(true, sl M 15 3)] [sl M 18 15] := r2'.p v3 (by decide) (r2'.rd.x (v3.mono (by decide) (by decide) (by simp) (by simp) (by simp) (by simp)) x802_3 (by have := d3.le; omega))
    have t3 : S3.2.1 803 2 = 1 := by rw [hS3]; refine Eq.trans ?_ (u3.trans t2); simp [hpI, up2]
    have o816_3 : S3.2.1 816 2 = nI (num (sl M 33 2)) := by rw [hS3, lI_to32]; simp [hpI, up2]
    show Q (hl_Me_readFields_2 (99996 + 1) 9 (nI 3) S3)
    refine ff_end sl_9 (by omega) (by omega) (by omega) ?_
    rw [hQ]
    exact ⟨S3, rfl, w3x, Or.inl ⟨⟨by have := r3'.rd.le; simp only [fLen]; omega, ⟨q2.2, q3.2⟩⟩, r3', o816_3, t3⟩⟩
  rw [hQ] at key
  obtain ⟨S', e, w, z⟩ := key
  refine ⟨S', ?_, w, z⟩
  unfold h_Me_readFields
  have e' : hl_Me_readFields_2 100000 9 0 S = some S' := e
  rw [e']; rfl
theorem flds_3 {S : hS} {M : List Nat} (r0 : RQ S M 15 [] []) (t0 : S.2.1 803 2 = 1) : ∃ S', h_Me_readFields 10 S = some S' ∧ fX S S' ∧ (((15 + fLen 3 M + 2 ≤ M.length ∧ fOk 3 M) ∧ RQ S' M (15 + fLen 3 M) (cds 3 M) (ams 3 M) ∧ oth 3 M S' ∧ S'.2.1 803 2 = 1) ∨ (¬ (15 + fLen 3 M + 2 ≤ M.length ∧ fOk 3 M) ∧ S'.2.1 803 2 = 0)) := by
  obtain ⟨Q, hQ⟩ : ∃ Q : Option hS → Prop, Q = fun o => ∃ S', o = some S' ∧ fX S S' ∧ (((15 + fLen 3 M + 2 ≤ M.length ∧ fOk 3 M) ∧ RQ S' M (15 + fLen 3 M) (cds 3 M) (ams 3 M) ∧ oth 3 M S' ∧ S'.2.1 803 2 = 1) ∨ (¬ (15 + fLen 3 M + 2 ≤ M.length ∧ fOk 3 M) ∧ S'.2.1 803 2 = 0)) := ⟨_, rfl⟩
  have hbad : ∀ S', fX S S' → S'.2.1 803 2 = 0 → ¬ (15 + fLen 3 M + 2 ≤ M.length ∧ fOk 3 M) → Q (some S') := fun S' a b c => by rw [hQ]; exact ⟨S', rfl, a, Or.inr ⟨c, b⟩⟩
  have key : Q (hl_Me_readFields_2 100000 10 (nI 0) S) := by
    show Q (hl_Me_readFields_2 (99999 + 1) 10 (nI 0) S)
    obtain ⟨S1, e1, v1, n1, b1⟩ := q_rk r0 true (by simp)
    refine ff_a sl_10 sc_10_0 (by omega) (by omega) t0 e1 ?_
    have w1x : fX S S1 := v1.f
    rcases b1 with ⟨q1, r1, u1⟩ | ⟨q1, u1, _⟩
    case inr => exact ff_x sl_10 u1 (hbad S1 w1x u1 (fun c => q1 (by have := c.1; simp only [fLen] at this; show 15 + 3 + 2 ≤ M.length; omega)))
    have r1' : RQ S1 M 18 [(true, sl M 15 3)] [] := r1
    have t1 : S1.2.1 803 2 = 1 := u1.trans t0
    show Q (hl_Me_readFields_2 (99998 + 1) 10 (nI 1) S1)
    obtain ⟨S2, e2, v2, n2, b2⟩ := q_rk r1' false (by simp)
    refine ff_p sl_10 sc_10_1 (by omega) (by omega) t1 e2 ?_
    have w2x : fX S S2 := (w1x.tr v2.f)
    rcases b2 with ⟨q2, r2, u2⟩ | ⟨q2, u2, _⟩
    case inr => exact ff_x sl_10 u2 (hbad S2 w2x u2 (fun c => q2 (by have := c.1; simp only [fLen] at this; show 18 + 4 + 2 ≤ M.length; omega)))
    have r2' : RQ S2 M 22 [(true, sl M 15 3), (false, sl M 18 4)] [] := r2
    have t2 : S2.2.1 803 2 = 1 := u2.trans t1
    show Q (hl_Me_readFields_2 (99997 + 1) 10 (nI 2) S2)
    obtain ⟨S3, e3, v3, n3, b3⟩ := q_ra r2' (by simp)
    refine ff_v sl_10 sc_10_2 (by omega) (by omega) t2 e3 ?_
    have w3x : fX S S3 := (w2x.tr v3.f)
    rcases b3 with ⟨q3, r3, u3⟩ | ⟨q3, u3⟩
    case inr => exact ff_x sl_10 u3 (hbad S3 w3x u3 (fun c => q3 ⟨by have := c.1; simp only [fLen] at this; omega, c.2⟩))
    have r3' : RQ S3 M 37 [(true, sl M 15 3), (false, sl M 18 4)] [sl M 22 15] := r3
    have t3 : S3.2.1 803 2 = 1 := u3.trans t2
    show Q (hl_Me_readFields_2 (99996 + 1) 10 (nI 3) S3)
    refine ff_end sl_10 (by omega) (by omega) (by omega) ?_
    rw [hQ]
    exact ⟨S3, rfl, w3x, Or.inl ⟨⟨by have := r3'.rd.le; simp only [fLen]; omega, q3.2⟩, r3', trivial, t3⟩⟩
  rw [hQ] at key
  obtain ⟨S', e, w, z⟩ := key
  refine ⟨S', ?_, w, z⟩
  unfold h_Me_readFields
  have e' : hl_Me_readFields_2 100000 10 0 S = some S' := e
  rw [e']; rfl
theorem flds_4 {S : hS} {M : List Nat} (r0 : RQ S M 15 [] []) (t0 : S.2.1 803 2 = 1) : ∃ S', h_Me_readFields 10 S = some S' ∧ fX S S' ∧ (((15 + fLen 4 M + 2 ≤ M.length ∧ fOk 4 M) ∧ RQ S' M (15 + fLen 4 M) (cds 4 M) (ams 4 M) ∧ oth 4 M S' ∧ S'.2.1 803 2 = 1) ∨ (¬ (15 + fLen 4 M + 2 ≤ M.length ∧ fOk 4 M) ∧ S'.2.1 803 2 = 0)) := by
  obtain ⟨Q, hQ⟩ : ∃ Q : Option hS → Prop, Q = fun o => ∃ S', o = some S' ∧ fX S S' ∧ (((15 + fLen 4 M + 2 ≤ M.length ∧ fOk 4 M) ∧ RQ S' M (15 + fLen 4 M) (cds 4 M) (ams 4 M) ∧ oth 4 M S' ∧ S'.2.1 803 2 = 1) ∨ (¬ (15 + fLen 4 M + 2 ≤ M.length ∧ fOk 4 M) ∧ S'.2.1 803 2 = 0)) := ⟨_, rfl⟩
  have hbad : ∀ S', fX S S' → S'.2.1 803 2 = 0 → ¬ (15 + fLen 4 M + 2 ≤ M.length ∧ fOk 4 M) → Q (some S') := fun S' a b c => by rw [hQ]; exact ⟨S', rfl, a, Or.inr ⟨c, b⟩⟩
  have key : Q (hl_Me_readFields_2 100000 10 (nI 0) S) := by
    show Q (hl_Me_readFields_2 (99999 + 1) 10 (nI 0) S)
    obtain ⟨S1, e1, v1, n1, b1⟩ := q_rk r0 true (by simp)
    refine ff_a sl_10 sc_10_0 (by omega) (by omega) t0 e1 ?_
    have w1x : fX S S1 := v1.f
    rcases b1 with ⟨q1, r1, u1⟩ | ⟨q1, u1, _⟩
    case inr => exact ff_x sl_10 u1 (hbad S1 w1x u1 (fun c => q1 (by have := c.1; simp only [fLen] at this; show 15 + 3 + 2 ≤ M.length; omega)))
    have r1' : RQ S1 M 18 [(true, sl M 15 3)] [] := r1
    have t1 : S1.2.1 803 2 = 1 := u1.trans t0
    show Q (hl_Me_readFields_2 (99998 + 1) 10 (nI 1) S1)
    obtain ⟨S2, e2, v2, n2, b2⟩ := q_rk r1' false (by simp)
    refine ff_p sl_10 sc_10_1 (by omega) (by omega) t1 e2 ?_
    have w2x : fX S S2 := (w1x.tr v2.f)
    rcases b2 with ⟨q2, r2, u2⟩ | ⟨q2, u2, _⟩
    case inr => exact ff_x sl_10 u2 (hbad S2 w2x u2 (fun c => q2 (by have := c.1; simp only [fLen] at this; show 18 + 4 + 2 ≤ M.length; omega)))
    have r2' : RQ S2 M 22 [(true, sl M 15 3), (false, sl M 18 4)] [] := r2
    have t2 : S2.2.1 803 2 = 1 := u2.trans t1
    show Q (hl_Me_readFields_2 (99997 + 1) 10 (nI 2) S2)
    obtain ⟨S3, e3, v3, n3, b3⟩ := q_ra r2' (by simp)
    refine ff_v sl_10 sc_10_2 (by omega) (by omega) t2 e3 ?_
    have w3x : fX S S3 := (w2x.tr v3.f)
    rcases b3 with ⟨q3, r3, u3⟩ | ⟨q3, u3⟩
    case inr => exact ff_x sl_10 u3 (hbad S3 w3x u3 (fun c => q3 ⟨by have := c.1; simp only [fLen] at this; omega, c.2⟩))
    have r3' : RQ S3 M 37 [(true, sl M 15 3), (false, sl M 18 4)] [sl M 22 15] := r3
    have t3 : S3.2.1 803 2 = 1 := u3.trans t2
    show Q (hl_Me_readFields_2 (99996 + 1) 10 (nI 3) S3)
    refine ff_end sl_10 (by omega) (by omega) (by omega) ?_
    rw [hQ]
    exact ⟨S3, rfl, w3x, Or.inl ⟨⟨by have := r3'.rd.le; simp only [fLen]; omega, q3.2⟩, r3', trivial, t3⟩⟩
  rw [hQ] at key
  obtain ⟨S', e, w, z⟩ := key
  refine ⟨S', ?_, w, z⟩
  unfold h_Me_readFields
  have e' : hl_Me_readFields_2 100000 10 0 S = some S' := e
  rw [e']; rfl
theorem flds_5 {S : hS} {M : List Nat} (r0 : RQ S M 15 [] []) (t0 : S.2.1 803 2 = 1) : ∃ S', h_Me_readFields 11 S = some S' ∧ fX S S' ∧ (((15 + fLen 5 M + 2 ≤ M.length ∧ fOk 5 M) ∧ RQ S' M (15 + fLen 5 M) (cds 5 M) (ams 5 M) ∧ oth 5 M S' ∧ S'.2.1 803 2 = 1) ∨ (¬ (15 + fLen 5 M + 2 ≤ M.length ∧ fOk 5 M) ∧ S'.2.1 803 2 = 0)) := by
  obtain ⟨Q, hQ⟩ : ∃ Q : Option hS → Prop, Q = fun o => ∃ S', o = some S' ∧ fX S S' ∧ (((15 + fLen 5 M + 2 ≤ M.length ∧ fOk 5 M) ∧ RQ S' M (15 + fLen 5 M) (cds 5 M) (ams 5 M) ∧ oth 5 M S' ∧ S'.2.1 803 2 = 1) ∨ (¬ (15 + fLen 5 M + 2 ≤ M.length ∧ fOk 5 M) ∧ S'.2.1 803 2 = 0)) := ⟨_, rfl⟩
  have hbad : ∀ S', fX S S' → S'.2.1 803 2 = 0 → ¬ (15 + fLen 5 M + 2 ≤ M.length ∧ fOk 5 M) → Q (some S') := fun S' a b c => by rw [hQ]; exact ⟨S', rfl, a, Or.inr ⟨c, b⟩⟩
  have key : Q (hl_Me_readFields_2 100000 11 (nI 0) S) := by
    show Q (hl_Me_readFields_2 (99999 + 1) 11 (nI 0) S)
    obtain ⟨S1, e1, v1, b1⟩ := q_ry r0.rd t0
    refine ff_y sl_11 sc_11_0 (by omega) (by omega) t0 e1 ?_
    have w1x : fX S S1 := (v1.mono (by decide) (by simp) (by simp) (by simp) (by simp) (by simp))
    rcases b1 with ⟨q1, qq1, d1, t1, o817_1⟩ | ⟨q1, u1⟩
    case inr => exact ff_x sl_11 u1 (hbad S1 w1x u1 (fun c => q1 ⟨by have := c.1; simp only [fLen] at this; omega, c.2.1⟩))
    have r1' : RQ S1 M 16 [] [] := r0.p v1 (by decide) d1
    show Q (hl_Me_readFields_2 (99998 + 1) 11 (nI 1) S1)
    obtain ⟨S2, e2, v2, b2⟩ := q_rl r1' t1
    refine ff_l sl_11 sc_11_1 (by omega) (by omega) t1 e2 ?_
    have w2x : fX S S2 := (w1x.tr v2.f)
    rcases b2 with ⟨q2, r2', t2⟩ | ⟨q2, u2⟩
    case inr => exact ff_x sl_11 u2 (hbad S2 w2x u2 (fun c => q2 ⟨by have := c.1; simp only [fLen] at this; omega, c.2.2⟩))
    have o817_2 : S2.2.1 817 2 = nI (M.getD 15 0) := (v2.ei _ (by decide) _).trans o817_1
    show Q (hl_Me_readFields_2 (99997 + 1) 11 (nI 2) S2)
    refine ff_end sl_11 (by omega) (by omega) (by omega) ?_
    rw [hQ]
    have e5 : 15 + fLen 5 M = 17 + 26 * M.getD 16 0 := by simp only [fLen]; omega
    have r5x : RQ S2 M (15 + fLen 5 M) (cds 5 M) (ams 5 M) := by rw [e5]; exact r2'
    exact ⟨S2, rfl, w2x, Or.inl ⟨⟨by have := q2.1; simp only [fLen]; omega, ⟨qq1, q2.2⟩⟩, r5x, o817_2, t2⟩⟩
  rw [hQ] at key
  obtain ⟨S', e, w, z⟩ := key
  refine ⟨S', ?_, w, z⟩
  unfold h_Me_readFields
  have e' : hl_Me_readFields_2 100000 11 0 S = some S' := e
  rw [e']; rfl
theorem flds_6 {S : hS} {M : List Nat} (r0 : RQ S M 15 [] []) (t0 : S.2.1 803 2 = 1) : ∃ S', h_Me_readFields 12 S = some S' ∧ fX S S' ∧ (((15 + fLen 6 M + 2 ≤ M.length ∧ fOk 6 M) ∧ RQ S' M (15 + fLen 6 M) (cds 6 M) (ams 6 M) ∧ oth 6 M S' ∧ S'.2.1 803 2 = 1) ∨ (¬ (15 + fLen 6 M + 2 ≤ M.length ∧ fOk 6 M) ∧ S'.2.1 803 2 = 0)) := by
  obtain ⟨Q, hQ⟩ : ∃ Q : Option hS → Prop, Q = fun o => ∃ S', o = some S' ∧ fX S S' ∧ (((15 + fLen 6 M + 2 ≤ M.length ∧ fOk 6 M) ∧ RQ S' M (15 + fLen 6 M) (cds 6 M) (ams 6 M) ∧ oth 6 M S' ∧ S'.2.1 803 2 = 1) ∨ (¬ (15 + fLen 6 M + 2 ≤ M.length ∧ fOk 6 M) ∧ S'.2.1 803 2 = 0)) := ⟨_, rfl⟩
  have hbad : ∀ S', fX S S' → S'.2.1 803 2 = 0 → ¬ (15 + fLen 6 M + 2 ≤ M.length ∧ fOk 6 M) → Q (some S') := fun S' a b c => by rw [hQ]; exact ⟨S', rfl, a, Or.inr ⟨c, b⟩⟩
  have key : Q (hl_Me_readFields_2 100000 12 (nI 0) S) := by
    show Q (hl_Me_readFields_2 (99999 + 1) 12 (nI 0) S)
    obtain ⟨S1, e1, v1, n1, b1⟩ := q_rk r0 false (by simp)
    refine ff_p sl_12 sc_12_0 (by omega) (by omega) t0 e1 ?_
    have w1x : fX S S1 := v1.f
    rcases b1 with ⟨q1, r1, u1⟩ | ⟨q1, u1, _⟩
    case inr => exact ff_x sl_12 u1 (hbad S1 w1x u1 (fun c => q1 (by have := c.1; simp only [fLen] at this; show 15 + 4 + 2 ≤ M.length; omega)))
    have r1' : RQ S1 M 19 [(false, sl M 15 4)] [] := r1
    have t1 : S1.2.1 803 2 = 1 := u1.trans t0
    show Q (hl_Me_readFields_2 (99998 + 1) 12 (nI 1) S1)
    rcases h_rc r1'.rd 8 (by omega) with ⟨q2, U2, e2, d2, u2, y2⟩ | ⟨q2, U2, g2, e2, d2, u2, y2⟩
    case inr =>
      refine ff_r sl_12 sc_12_1 (by omega) (by omega) t1 e2 ?_
      have z2 : hX [802, 803] [818] [] [] [] [] S1 (hpL U2 818 2 ((0 : Int64))) := (y2.mono (by decide) (by simp) (by simp) (by simp) (by simp) (by simp)).pL (by decide)
      have zz2 : fX S (hpL U2 818 2 ((0 : Int64))) := (w1x.tr (z2.mono (by decide) (by decide) (by simp) (by simp) (by simp) (by simp)))
      have u0 : (hpL U2 818 2 ((0 : Int64))).2.1 803 2 = 0 := by rw [← u2]; simp [hpI, hpL, up2]
      exact ff_x sl_12 u0 (hbad _ zz2 u0 (fun c => q2 (by have := c.1; simp only [fLen] at this; omega)))
    refine ff_r sl_12 sc_12_1 (by omega) (by omega) t1 e2 ?_
    obtain ⟨S2, hS2⟩ : ∃ X, X = hpL U2 818 2 (lI (b36 (sl M 19 8) : Nat)) := ⟨_, rfl⟩
    rw [← hS2]
    have v2 : hX [802, 803] [818] [] [] [] [] S1 S2 := by rw [hS2]; exact (y2.mono (by decide) (by simp) (by simp) (by simp) (by simp) (by simp)).pL (by decide)
    have w2x : fX S S2 := (w1x.tr (v2.mono (by decide) (by decide) (by simp) (by simp) (by simp) (by simp)))
    have x802_2 : S2.2.1 802 2 = nI 27 := by rw [hS2]; refine Eq.trans ?_ d2.at; simp [hpI, hpL, up2]
    have r2' : RQ S2 M 27 [(false, sl M 15 4)] [] := r1'.p v2 (by decide) (r1'.rd.x (v2.mono (by decide) (by decide) (by simp) (by simp) (by simp) (by simp)) x802_2 (by have := d2.le; omega))
    have t2 : S2.2.1 803 2 = 1 := by rw [hS2]; refine Eq.trans ?_ (u2.trans t1); simp [hpI, hpL, up2]
    have o818_2 : S2.2.2.1 818 2 = lI (b36 (sl M 19 8) : Nat) := by rw [hS2]; simp [hpL, up2]
    show Q (hl_Me_readFields_2 (99997 + 1) 12 (nI 2) S2)
    refine ff_end sl_12 (by omega) (by omega) (by omega) ?_
    rw [hQ]
    exact ⟨S2, rfl, w2x, Or.inl ⟨⟨by have := r2'.rd.le; simp only [fLen]; omega, trivial⟩, r2', o818_2, t2⟩⟩
  rw [hQ] at key
  obtain ⟨S', e, w, z⟩ := key
  refine ⟨S', ?_, w, z⟩
  unfold h_Me_readFields
  have e' : hl_Me_readFields_2 100000 12 0 S = some S' := e
  rw [e']; rfl
theorem flds_7 {S : hS} {M : List Nat} (r0 : RQ S M 15 [] []) (t0 : S.2.1 803 2 = 1) : ∃ S', h_Me_readFields 13 S = some S' ∧ fX S S' ∧ (((15 + fLen 7 M + 2 ≤ M.length ∧ fOk 7 M) ∧ RQ S' M (15 + fLen 7 M) (cds 7 M) (ams 7 M) ∧ oth 7 M S' ∧ S'.2.1 803 2 = 1) ∨ (¬ (15 + fLen 7 M + 2 ≤ M.length ∧ fOk 7 M) ∧ S'.2.1 803 2 = 0)) := by
  obtain ⟨Q, hQ⟩ : ∃ Q : Option hS → Prop, Q = fun o => ∃ S', o = some S' ∧ fX S S' ∧ (((15 + fLen 7 M + 2 ≤ M.length ∧ fOk 7 M) ∧ RQ S' M (15 + fLen 7 M) (cds 7 M) (ams 7 M) ∧ oth 7 M S' ∧ S'.2.1 803 2 = 1) ∨ (¬ (15 + fLen 7 M + 2 ≤ M.length ∧ fOk 7 M) ∧ S'.2.1 803 2 = 0)) := ⟨_, rfl⟩
  have hbad : ∀ S', fX S S' → S'.2.1 803 2 = 0 → ¬ (15 + fLen 7 M + 2 ≤ M.length ∧ fOk 7 M) → Q (some S') := fun S' a b c => by rw [hQ]; exact ⟨S', rfl, a, Or.inr ⟨c, b⟩⟩
  have key : Q (hl_Me_readFields_2 100000 13 (nI 0) S) := by
    show Q (hl_Me_readFields_2 (99999 + 1) 13 (nI 0) S)
    rcases h_rc r0.rd 8 (by omega) with ⟨q1, U1, e1, d1, u1, y1⟩ | ⟨q1, U1, g1, e1, d1, u1, y1⟩
    case inr =>
      refine ff_r sl_13 sc_13_0 (by omega) (by omega) t0 e1 ?_
      have z1 : hX [802, 803] [818] [] [] [] [] S (hpL U1 818 2 ((0 : Int64))) := (y1.mono (by decide) (by simp) (by simp) (by simp) (by simp) (by simp)).pL (by decide)
      have zz1 : fX S (hpL U1 818 2 ((0 : Int64))) := (z1.mono (by decide) (by decide) (by simp) (by simp) (by simp) (by simp))
      have u0 : (hpL U1 818 2 ((0 : Int64))).2.1 803 2 = 0 := by rw [← u1]; simp [hpI, hpL, up2]
      exact ff_x sl_13 u0 (hbad _ zz1 u0 (fun c => q1 (by have := c.1; simp only [fLen] at this; omega)))
    refine ff_r sl_13 sc_13_0 (by omega) (by omega) t0 e1 ?_
    obtain ⟨S1, hS1⟩ : ∃ X, X = hpL U1 818 2 (lI (b36 (sl M 15 8) : Nat)) := ⟨_, rfl⟩
    rw [← hS1]
    have v1 : hX [802, 803] [818] [] [] [] [] S S1 := by rw [hS1]; exact (y1.mono (by decide) (by simp) (by simp) (by simp) (by simp) (by simp)).pL (by decide)
    have w1x : fX S S1 := (v1.mono (by decide) (by decide) (by simp) (by simp) (by simp) (by simp))
    have x802_1 : S1.2.1 802 2 = nI 23 := by rw [hS1]; refine Eq.trans ?_ d1.at; simp [hpI, hpL, up2]
    have r1' : RQ S1 M 23 [] [] := r0.p v1 (by decide) (r0.rd.x (v1.mono (by decide) (by decide) (by simp) (by simp) (by simp) (by simp)) x802_1 (by have := d1.le; omega))
    have t1 : S1.2.1 803 2 = 1 := by rw [hS1]; refine Eq.trans ?_ (u1.trans t0); simp [hpI, hpL, up2]
    have o818_1 : S1.2.2.1 818 2 = lI (b36 (sl M 15 8) : Nat) := by rw [hS1]; simp [hpL, up2]
    show Q (hl_Me_readFields_2 (99998 + 1) 13 (nI 1) S1)
    refine ff_end sl_13 (by omega) (by omega) (by omega) ?_
    rw [hQ]
    exact ⟨S1, rfl, w1x, Or.inl ⟨⟨by have := r1'.rd.le; simp only [fLen]; omega, trivial⟩, r1', o818_1, t1⟩⟩
  rw [hQ] at key
  obtain ⟨S', e, w, z⟩ := key
  refine ⟨S', ?_, w, z⟩
  unfold h_Me_readFields
  have e' : hl_Me_readFields_2 100000 13 0 S = some S' := e
  rw [e']; rfl
theorem flds_8 {S : hS} {M : List Nat} (r0 : RQ S M 15 [] []) (t0 : S.2.1 803 2 = 1) : ∃ S', h_Me_readFields 14 S = some S' ∧ fX S S' ∧ (((15 + fLen 8 M + 2 ≤ M.length ∧ fOk 8 M) ∧ RQ S' M (15 + fLen 8 M) (cds 8 M) (ams 8 M) ∧ oth 8 M S' ∧ S'.2.1 803 2 = 1) ∨ (¬ (15 + fLen 8 M + 2 ≤ M.length ∧ fOk 8 M) ∧ S'.2.1 803 2 = 0)) := by
  obtain ⟨Q, hQ⟩ : ∃ Q : Option hS → Prop, Q = fun o => ∃ S', o = some S' ∧ fX S S' ∧ (((15 + fLen 8 M + 2 ≤ M.length ∧ fOk 8 M) ∧ RQ S' M (15 + fLen 8 M) (cds 8 M) (ams 8 M) ∧ oth 8 M S' ∧ S'.2.1 803 2 = 1) ∨ (¬ (15 + fLen 8 M + 2 ≤ M.length ∧ fOk 8 M) ∧ S'.2.1 803 2 = 0)) := ⟨_, rfl⟩
  have hbad : ∀ S', fX S S' → S'.2.1 803 2 = 0 → ¬ (15 + fLen 8 M + 2 ≤ M.length ∧ fOk 8 M) → Q (some S') := fun S' a b c => by rw [hQ]; exact ⟨S', rfl, a, Or.inr ⟨c, b⟩⟩
  have key : Q (hl_Me_readFields_2 100000 14 (nI 0) S) := by
    show Q (hl_Me_readFields_2 (99999 + 1) 14 (nI 0) S)
    rcases h_rc r0.rd 8 (by omega) with ⟨q1, U1, e1, d1, u1, y1⟩ | ⟨q1, U1, g1, e1, d1, u1, y1⟩
    case inr =>
      refine ff_r sl_14 sc_14_0 (by omega) (by omega) t0 e1 ?_
      have z1 : hX [802, 803] [818] [] [] [] [] S (hpL U1 818 2 ((0 : Int64))) := (y1.mono (by decide) (by simp) (by simp) (by simp) (by simp) (by simp)).pL (by decide)
      have zz1 : fX S (hpL U1 818 2 ((0 : Int64))) := (z1.mono (by decide) (by decide) (by simp) (by simp) (by simp) (by simp))
      have u0 : (hpL U1 818 2 ((0 : Int64))).2.1 803 2 = 0 := by rw [← u1]; simp [hpI, hpL, up2]
      exact ff_x sl_14 u0 (hbad _ zz1 u0 (fun c => q1 (by have := c.1; simp only [fLen] at this; omega)))
    refine ff_r sl_14 sc_14_0 (by omega) (by omega) t0 e1 ?_
    obtain ⟨S1, hS1⟩ : ∃ X, X = hpL U1 818 2 (lI (b36 (sl M 15 8) : Nat)) := ⟨_, rfl⟩
    rw [← hS1]
    have v1 : hX [802, 803] [818] [] [] [] [] S S1 := by rw [hS1]; exact (y1.mono (by decide) (by simp) (by simp) (by simp) (by simp) (by simp)).pL (by decide)
    have w1x : fX S S1 := (v1.mono (by decide) (by decide) (by simp) (by simp) (by simp) (by simp))
    have x802_1 : S1.2.1 802 2 = nI 23 := by rw [hS1]; refine Eq.trans ?_ d1.at; simp [hpI, hpL, up2]
    have r1' : RQ S1 M 23 [] [] := r0.p v1 (by decide) (r0.rd.x (v1.mono (by decide) (by decide) (by simp) (by simp) (by simp) (by simp)) x802_1 (by have := d1.le; omega))
    have t1 : S1.2.1 803 2 = 1 := by rw [hS1]; refine Eq.trans ?_ (u1.trans t0); simp [hpI, hpL, up2]
    have o818_1 : S1.2.2.1 818 2 = lI (b36 (sl M 15 8) : Nat) := by rw [hS1]; simp [hpL, up2]
    show Q (hl_Me_readFields_2 (99998 + 1) 14 (nI 1) S1)
    obtain ⟨S2, e2, v2, b2⟩ := q_ry r1'.rd t1
    refine ff_y sl_14 sc_14_1 (by omega) (by omega) t1 e2 ?_
    have w2x : fX S S2 := (w1x.tr (v2.mono (by decide) (by simp) (by simp) (by simp) (by simp) (by simp)))
    rcases b2 with ⟨q2, qq2, d2, t2, o817_2⟩ | ⟨q2, u2⟩
    case inr => exact ff_x sl_14 u2 (hbad S2 w2x u2 (fun c => q2 ⟨by have := c.1; simp only [fLen] at this; omega, c.2⟩))
    have r2' : RQ S2 M 24 [] [] := r1'.p v2 (by decide) d2
    have o818_2 : S2.2.2.1 818 2 = lI (b36 (sl M 15 8) : Nat) := (v2.el _ (by decide) _).trans o818_1
    show Q (hl_Me_readFields_2 (99997 + 1) 14 (nI 2) S2)
    refine ff_end sl_14 (by omega) (by omega) (by omega) ?_
    rw [hQ]
    exact ⟨S2, rfl, w2x, Or.inl ⟨⟨by have := r2'.rd.le; simp only [fLen]; omega, qq2⟩, r2', ⟨o818_2, o817_2⟩, t2⟩⟩
  rw [hQ] at key
  obtain ⟨S', e, w, z⟩ := key
  refine ⟨S', ?_, w, z⟩
  unfold h_Me_readFields
  have e' : hl_Me_readFields_2 100000 14 0 S = some S' := e
  rw [e']; rfl
theorem flds_9 {S : hS} {M : List Nat} (r0 : RQ S M 15 [] []) (t0 : S.2.1 803 2 = 1) : ∃ S', h_Me_readFields 15 S = some S' ∧ fX S S' ∧ (((15 + fLen 9 M + 2 ≤ M.length ∧ fOk 9 M) ∧ RQ S' M (15 + fLen 9 M) (cds 9 M) (ams 9 M) ∧ oth 9 M S' ∧ S'.2.1 803 2 = 1) ∨ (¬ (15 + fLen 9 M + 2 ≤ M.length ∧ fOk 9 M) ∧ S'.2.1 803 2 = 0)) := by
  obtain ⟨Q, hQ⟩ : ∃ Q : Option hS → Prop, Q = fun o => ∃ S', o = some S' ∧ fX S S' ∧ (((15 + fLen 9 M + 2 ≤ M.length ∧ fOk 9 M) ∧ RQ S' M (15 + fLen 9 M) (cds 9 M) (ams 9 M) ∧ oth 9 M S' ∧ S'.2.1 803 2 = 1) ∨ (¬ (15 + fLen 9 M + 2 ≤ M.length ∧ fOk 9 M) ∧ S'.2.1 803 2 = 0)) := ⟨_, rfl⟩
  have hbad : ∀ S', fX S S' → S'.2.1 803 2 = 0 → ¬ (15 + fLen 9 M + 2 ≤ M.length ∧ fOk 9 M) → Q (some S') := fun S' a b c => by rw [hQ]; exact ⟨S', rfl, a, Or.inr ⟨c, b⟩⟩
  have key : Q (hl_Me_readFields_2 100000 15 (nI 0) S) := by
    show Q (hl_Me_readFields_2 (99999 + 1) 15 (nI 0) S)
    obtain ⟨S1, e1, v1, n1, b1⟩ := q_rk r0 false (by simp)
    refine ff_p sl_15 sc_15_0 (by omega) (by omega) t0 e1 ?_
    have w1x : fX S S1 := v1.f
    rcases b1 with ⟨q1, r1, u1⟩ | ⟨q1, u1, _⟩
    case inr => exact ff_x sl_15 u1 (hbad S1 w1x u1 (fun c => q1 (by have := c.1; simp only [fLen] at this; show 15 + 4 + 2 ≤ M.length; omega)))
    have r1' : RQ S1 M 19 [(false, sl M 15 4)] [] := r1
    have t1 : S1.2.1 803 2 = 1 := u1.trans t0
    show Q (hl_Me_readFields_2 (99998 + 1) 15 (nI 1) S1)
    obtain ⟨S2, e2, v2, n2, b2⟩ := q_ra r1' (by simp)
    refine ff_v sl_15 sc_15_1 (by omega) (by omega) t1 e2 ?_
    have w2x : fX S S2 := (w1x.tr v2.f)
    rcases b2 with ⟨q2, r2, u2⟩ | ⟨q2, u2⟩
    case inr => exact ff_x sl_15 u2 (hbad S2 w2x u2 (fun c => q2 ⟨by have := c.1; simp only [fLen] at this; omega, c.2⟩))
    have r2' : RQ S2 M 34 [(false, sl M 15 4)] [sl M 19 15] := r2
    have t2 : S2.2.1 803 2 = 1 := u2.trans t1
    show Q (hl_Me_readFields_2 (99997 + 1) 15 (nI 2) S2)
    refine ff_end sl_15 (by omega) (by omega) (by omega) ?_
    rw [hQ]
    exact ⟨S2, rfl, w2x, Or.inl ⟨⟨by have := r2'.rd.le; simp only [fLen]; omega, q2.2⟩, r2', trivial, t2⟩⟩
  rw [hQ] at key
  obtain ⟨S', e, w, z⟩ := key
  refine ⟨S', ?_, w, z⟩
  unfold h_Me_readFields
  have e' : hl_Me_readFields_2 100000 15 0 S = some S' := e
  rw [e']; rfl
theorem flds_10 {S : hS} {M : List Nat} (r0 : RQ S M 15 [] []) (t0 : S.2.1 803 2 = 1) : ∃ S', h_Me_readFields 16 S = some S' ∧ fX S S' ∧ (((15 + fLen 10 M + 2 ≤ M.length ∧ fOk 10 M) ∧ RQ S' M (15 + fLen 10 M) (cds 10 M) (ams 10 M) ∧ oth 10 M S' ∧ S'.2.1 803 2 = 1) ∨ (¬ (15 + fLen 10 M + 2 ≤ M.length ∧ fOk 10 M) ∧ S'.2.1 803 2 = 0)) := by
  obtain ⟨Q, hQ⟩ : ∃ Q : Option hS → Prop, Q = fun o => ∃ S', o = some S' ∧ fX S S' ∧ (((15 + fLen 10 M + 2 ≤ M.length ∧ fOk 10 M) ∧ RQ S' M (15 + fLen 10 M) (cds 10 M) (ams 10 M) ∧ oth 10 M S' ∧ S'.2.1 803 2 = 1) ∨ (¬ (15 + fLen 10 M + 2 ≤ M.length ∧ fOk 10 M) ∧ S'.2.1 803 2 = 0)) := ⟨_, rfl⟩
  have hbad : ∀ S', fX S S' → S'.2.1 803 2 = 0 → ¬ (15 + fLen 10 M + 2 ≤ M.length ∧ fOk 10 M) → Q (some S') := fun S' a b c => by rw [hQ]; exact ⟨S', rfl, a, Or.inr ⟨c, b⟩⟩
  have key : Q (hl_Me_readFields_2 100000 16 (nI 0) S) := by
    show Q (hl_Me_readFields_2 (99999 + 1) 16 (nI 0) S)
    obtain ⟨S1, e1, v1, n1, b1⟩ := q_rk r0 false (by simp)
    refine ff_p sl_16 sc_16_0 (by omega) (by omega) t0 e1 ?_
    have w1x : fX S S1 := v1.f
    rcases b1 with ⟨q1, r1, u1⟩ | ⟨q1, u1, _⟩
    case inr => exact ff_x sl_16 u1 (hbad S1 w1x u1 (fun c => q1 (by have := c.1; simp only [fLen] at this; show 15 + 4 + 2 ≤ M.length; omega)))
    have r1' : RQ S1 M 19 [(false, sl M 15 4)] [] := r1
    have t1 : S1.2.1 803 2 = 1 := u1.trans t0
    show Q (hl_Me_readFields_2 (99998 + 1) 16 (nI 1) S1)
    refine ff_end sl_16 (by omega) (by omega) (by omega) ?_
    rw [hQ]
    exact ⟨S1, rfl, w1x, Or.inl ⟨⟨by have := r1'.rd.le; simp only [fLen]; omega, trivial⟩, r1', trivial, t1⟩⟩
  rw [hQ] at key
  obtain ⟨S', e, w, z⟩ := key
  refine ⟨S', ?_, w, z⟩
  unfold h_Me_readFields
  have e' : hl_Me_readFields_2 100000 16 0 S = some S' := e
  rw [e']; rfl
theorem flds_11 {S : hS} {M : List Nat} (r0 : RQ S M 15 [] []) (t0 : S.2.1 803 2 = 1) : ∃ S', h_Me_readFields 17 S = some S' ∧ fX S S' ∧ (((15 + fLen 11 M + 2 ≤ M.length ∧ fOk 11 M) ∧ RQ S' M (15 + fLen 11 M) (cds 11 M) (ams 11 M) ∧ oth 11 M S' ∧ S'.2.1 803 2 = 1) ∨ (¬ (15 + fLen 11 M + 2 ≤ M.length ∧ fOk 11 M) ∧ S'.2.1 803 2 = 0)) := by
  obtain ⟨Q, hQ⟩ : ∃ Q : Option hS → Prop, Q = fun o => ∃ S', o = some S' ∧ fX S S' ∧ (((15 + fLen 11 M + 2 ≤ M.length ∧ fOk 11 M) ∧ RQ S' M (15 + fLen 11 M) (cds 11 M) (ams 11 M) ∧ oth 11 M S' ∧ S'.2.1 803 2 = 1) ∨ (¬ (15 + fLen 11 M + 2 ≤ M.length ∧ fOk 11 M) ∧ S'.2.1 803 2 = 0)) := ⟨_, rfl⟩
  have hbad : ∀ S', fX S S' → S'.2.1 803 2 = 0 → ¬ (15 + fLen 11 M + 2 ≤ M.length ∧ fOk 11 M) → Q (some S') := fun S' a b c => by rw [hQ]; exact ⟨S', rfl, a, Or.inr ⟨c, b⟩⟩
  have key : Q (hl_Me_readFields_2 100000 17 (nI 0) S) := by
    show Q (hl_Me_readFields_2 (99999 + 1) 17 (nI 0) S)
    obtain ⟨S1, e1, v1, n1, b1⟩ := q_rk r0 true (by simp)
    refine ff_a sl_17 sc_17_0 (by omega) (by omega) t0 e1 ?_
    have w1x : fX S S1 := v1.f
    rcases b1 with ⟨q1, r1, u1⟩ | ⟨q1, u1, _⟩
    case inr => exact ff_x sl_17 u1 (hbad S1 w1x u1 (fun c => q1 (by have := c.1; simp only [fLen] at this; show 15 + 3 + 2 ≤ M.length; omega)))
    have r1' : RQ S1 M 18 [(true, sl M 15 3)] [] := r1
    have t1 : S1.2.1 803 2 = 1 := u1.trans t0
    show Q (hl_Me_readFields_2 (99998 + 1) 17 (nI 1) S1)
    obtain ⟨S2, e2, v2, n2, b2⟩ := q_ra r1' (by simp)
    refine ff_v sl_17 sc_17_1 (by omega) (by omega) t1 e2 ?_
    have w2x : fX S S2 := (w1x.tr v2.f)
    rcases b2 with ⟨q2, r2, u2⟩ | ⟨q2, u2⟩
    case inr => exact ff_x sl_17 u2 (hbad S2 w2x u2 (fun c => q2 ⟨by have := c.1; simp only [fLen] at this; omega, c.2⟩))
    have r2' : RQ S2 M 33 [(true, sl M 15 3)] [sl M 18 15] := r2
    have t2 : S2.2.1 803 2 = 1 := u2.trans t1
    show Q (hl_Me_readFields_2 (99997 + 1) 17 (nI 2) S2)
    refine ff_end sl_17 (by omega) (by omega) (by omega) ?_
    rw [hQ]
    exact ⟨S2, rfl, w2x, Or.inl ⟨⟨by have := r2'.rd.le; simp only [fLen]; omega, q2.2⟩, r2', trivial, t2⟩⟩
  rw [hQ] at key
  obtain ⟨S', e, w, z⟩ := key
  refine ⟨S', ?_, w, z⟩
  unfold h_Me_readFields
  have e' : hl_Me_readFields_2 100000 17 0 S = some S' := e
  rw [e']; rfl
theorem flds_12 {S : hS} {M : List Nat} (r0 : RQ S M 15 [] []) (t0 : S.2.1 803 2 = 1) : ∃ S', h_Me_readFields 17 S = some S' ∧ fX S S' ∧ (((15 + fLen 12 M + 2 ≤ M.length ∧ fOk 12 M) ∧ RQ S' M (15 + fLen 12 M) (cds 12 M) (ams 12 M) ∧ oth 12 M S' ∧ S'.2.1 803 2 = 1) ∨ (¬ (15 + fLen 12 M + 2 ≤ M.length ∧ fOk 12 M) ∧ S'.2.1 803 2 = 0)) := by
  obtain ⟨Q, hQ⟩ : ∃ Q : Option hS → Prop, Q = fun o => ∃ S', o = some S' ∧ fX S S' ∧ (((15 + fLen 12 M + 2 ≤ M.length ∧ fOk 12 M) ∧ RQ S' M (15 + fLen 12 M) (cds 12 M) (ams 12 M) ∧ oth 12 M S' ∧ S'.2.1 803 2 = 1) ∨ (¬ (15 + fLen 12 M + 2 ≤ M.length ∧ fOk 12 M) ∧ S'.2.1 803 2 = 0)) := ⟨_, rfl⟩
  have hbad : ∀ S', fX S S' → S'.2.1 803 2 = 0 → ¬ (15 + fLen 12 M + 2 ≤ M.length ∧ fOk 12 M) → Q (some S') := fun S' a b c => by rw [hQ]; exact ⟨S', rfl, a, Or.inr ⟨c, b⟩⟩
  have key : Q (hl_Me_readFields_2 100000 17 (nI 0) S) := by
    show Q (hl_Me_readFields_2 (99999 + 1) 17 (nI 0) S)
    obtain ⟨S1, e1, v1, n1, b1⟩ := q_rk r0 true (by simp)
    refine ff_a sl_17 sc_17_0 (by omega) (by omega) t0 e1 ?_
    have w1x : fX S S1 := v1.f
    rcases b1 with ⟨q1, r1, u1⟩ | ⟨q1, u1, _⟩
    case inr => exact ff_x sl_17 u1 (hbad S1 w1x u1 (fun c => q1 (by have := c.1; simp only [fLen] at this; show 15 + 3 + 2 ≤ M.length; omega)))
    have r1' : RQ S1 M 18 [(true, sl M 15 3)] [] := r1
    have t1 : S1.2.1 803 2 = 1 := u1.trans t0
    show Q (hl_Me_readFields_2 (99998 + 1) 17 (nI 1) S1)
    obtain ⟨S2, e2, v2, n2, b2⟩ := q_ra r1' (by simp)
    refine ff_v sl_17 sc_17_1 (by omega) (by omega) t1 e2 ?_
    have w2x : fX S S2 := (w1x.tr v2.f)
    rcases b2 with ⟨q2, r2, u2⟩ | ⟨q2, u2⟩
    case inr => exact ff_x sl_17 u2 (hbad S2 w2x u2 (fun c => q2 ⟨by have := c.1; simp only [fLen] at this; omega, c.2⟩))
    have r2' : RQ S2 M 33 [(true, sl M 15 3)] [sl M 18 15] := r2
    have t2 : S2.2.1 803 2 = 1 := u2.trans t1
    show Q (hl_Me_readFields_2 (99997 + 1) 17 (nI 2) S2)
    refine ff_end sl_17 (by omega) (by omega) (by omega) ?_
    rw [hQ]
    exact ⟨S2, rfl, w2x, Or.inl ⟨⟨by have := r2'.rd.le; simp only [fLen]; omega, q2.2⟩, r2', trivial, t2⟩⟩
  rw [hQ] at key
  obtain ⟨S', e, w, z⟩ := key
  refine ⟨S', ?_, w, z⟩
  unfold h_Me_readFields
  have e' : hl_Me_readFields_2 100000 17 0 S = some S' := e
  rw [e']; rfl
theorem flds_13 {S : hS} {M : List Nat} (r0 : RQ S M 15 [] []) (t0 : S.2.1 803 2 = 1) : ∃ S', h_Me_readFields 18 S = some S' ∧ fX S S' ∧ (((15 + fLen 13 M + 2 ≤ M.length ∧ fOk 13 M) ∧ RQ S' M (15 + fLen 13 M) (cds 13 M) (ams 13 M) ∧ oth 13 M S' ∧ S'.2.1 803 2 = 1) ∨ (¬ (15 + fLen 13 M + 2 ≤ M.length ∧ fOk 13 M) ∧ S'.2.1 803 2 = 0)) := by
  obtain ⟨Q, hQ⟩ : ∃ Q : Option hS → Prop, Q = fun o => ∃ S', o = some S' ∧ fX S S' ∧ (((15 + fLen 13 M + 2 ≤ M.length ∧ fOk 13 M) ∧ RQ S' M (15 + fLen 13 M) (cds 13 M) (ams 13 M) ∧ oth 13 M S' ∧ S'.2.1 803 2 = 1) ∨ (¬ (15 + fLen 13 M + 2 ≤ M.length ∧ fOk 13 M) ∧ S'.2.1 803 2 = 0)) := ⟨_, rfl⟩
  have hbad : ∀ S', fX S S' → S'.2.1 803 2 = 0 → ¬ (15 + fLen 13 M + 2 ≤ M.length ∧ fOk 13 M) → Q (some S') := fun S' a b c => by rw [hQ]; exact ⟨S', rfl, a, Or.inr ⟨c, b⟩⟩
  have key : Q (hl_Me_readFields_2 100000 18 (nI 0) S) := by
    show Q (hl_Me_readFields_2 (99999 + 1) 18 (nI 0) S)
    refine ff_end sl_18 (by omega) (by omega) (by omega) ?_
    rw [hQ]
    exact ⟨S, rfl, hX.rf, Or.inl ⟨⟨by have := r0.rd.le; simp only [fLen]; omega, trivial⟩, r0, trivial, t0⟩⟩
  rw [hQ] at key
  obtain ⟨S', e, w, z⟩ := key
  refine ⟨S', ?_, w, z⟩
  unfold h_Me_readFields
  have e' : hl_Me_readFields_2 100000 18 0 S = some S' := e
  rw [e']; rfl
theorem flds_14 {S : hS} {M : List Nat} (r0 : RQ S M 15 [] []) (t0 : S.2.1 803 2 = 1) : ∃ S', h_Me_readFields 18 S = some S' ∧ fX S S' ∧ (((15 + fLen 14 M + 2 ≤ M.length ∧ fOk 14 M) ∧ RQ S' M (15 + fLen 14 M) (cds 14 M) (ams 14 M) ∧ oth 14 M S' ∧ S'.2.1 803 2 = 1) ∨ (¬ (15 + fLen 14 M + 2 ≤ M.length ∧ fOk 14 M) ∧ S'.2.1 803 2 = 0)) := by
  obtain ⟨Q, hQ⟩ : ∃ Q : Option hS → Prop, Q = fun o => ∃ S', o = some S' ∧ fX S S' ∧ (((15 + fLen 14 M + 2 ≤ M.length ∧ fOk 14 M) ∧ RQ S' M (15 + fLen 14 M) (cds 14 M) (ams 14 M) ∧ oth 14 M S' ∧ S'.2.1 803 2 = 1) ∨ (¬ (15 + fLen 14 M + 2 ≤ M.length ∧ fOk 14 M) ∧ S'.2.1 803 2 = 0)) := ⟨_, rfl⟩
  have hbad : ∀ S', fX S S' → S'.2.1 803 2 = 0 → ¬ (15 + fLen 14 M + 2 ≤ M.length ∧ fOk 14 M) → Q (some S') := fun S' a b c => by rw [hQ]; exact ⟨S', rfl, a, Or.inr ⟨c, b⟩⟩
  have key : Q (hl_Me_readFields_2 100000 18 (nI 0) S) := by
    show Q (hl_Me_readFields_2 (99999 + 1) 18 (nI 0) S)
    refine ff_end sl_18 (by omega) (by omega) (by omega) ?_
    rw [hQ]
    exact ⟨S, rfl, hX.rf, Or.inl ⟨⟨by have := r0.rd.le; simp only [fLen]; omega, trivial⟩, r0, trivial, t0⟩⟩
  rw [hQ] at key
  obtain ⟨S', e, w, z⟩ := key
  refine ⟨S', ?_, w, z⟩
  unfold h_Me_readFields
  have e' : hl_Me_readFields_2 100000 18 0 S = some S' := e
  rw [e']; rfl
