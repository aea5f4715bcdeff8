/-! Sending. -/
section
variable {n : Nat} {S : hS} {s : mS} {z : Z} {g : hG} {q u : List Ins} {L : Nat}
set_option maxRecDepth 10000 in
theorem cx_ln {a b n : Nat} (h1 : a ≤ b + 1) (h2 : b ≤ 60 + 300 * n) : a ≤ 61 + 300 * n := by omega
theorem ge1 {a : Int32} (h : ¬ a < 1) : ¬ a < 0 := fun c => h (Int32.lt_trans c (by decide))
theorem i_send (h : INV n S s z g q u L) (hn : n < 512) (a : Int32) : ∃ r S' s', h_Ho_send a S = some (r, S') ∧ d_Mo_send a s = some (r, s') ∧ IN (n + 1) S' s' := by
  have hM : am_M = 16777216 := rfl
  have hln := h.ln
  obtain ⟨t, t1, t2, t3, t4⟩ := h.tp
  unfold h_Ho_send d_Mo_send
  rw [h.dk.1, t2, t3]
  by_cases c0 : s.1 57 = 0
  · rw [if_pos c0, if_pos c0]; exact ⟨0, S, s, rfl, rfl, z, g, q, u, L, h.mono⟩
  rw [if_neg c0, if_neg c0]
  by_cases c1 : a < 1
  · rw [if_pos c1, if_pos c1]; exact ⟨0, S, s, rfl, rfl, z, g, q, u, L, h.mono⟩
  rw [if_neg c1, if_neg c1]
  by_cases c2 : a ≤ nI t
  · rw [if_pos c2, if_pos c2]
    obtain ⟨N, rfl, hN⟩ := i32N (ge1 c1)
    have hNt : N ≤ t := (nI_le' (by omega) (by omega)).mp c2
    have hN1 : 1 ≤ N := Nat.le_of_not_lt (fun w => c1 ((nI_lt' (b := 1) (by omega) (by omega)).mpr w))
    obtain ⟨S1, r, S3, s1, s2, e1, e2, e3, e4, sg, z3, x3, hA3, sh3, v2, an2, e2N, txj, alt⟩ := send_read h hn ⟨hN1, hNt⟩ t1 t4
    rw [e1, Option.bind_some, e2, Option.bind_some, e3, Option.bind_some, e4, Option.bind_some]
    have B2 : MB s2 z := h.hb.x5 v2 (by decide) (by decide) (by simp)
    have Q2 : MQu s2 z := h.hq.x5 v2 (by decide) (by decide) (by simp) (by simp)
    have M2 : M0 s2 := h.m0.x v2 (by decide) (by decide) (by simp)
    have X2 : MXt s2 z.txs := h.hx.x v2 (by decide) (by decide) (by simp)
    obtain ⟨V, s3, f1, f2, f3⟩ := d_fault B2 Q2 h.ok h.gd (by omega) X2 h.ot (N := N) (by omega) e2N sg.t2
    rw [f1, Option.bind_some]
    have up3 : ¬ s3.1 57 = 0 := by rw [f2.1 57 (by decide), v2.1 57 (by decide)]; exact c0
    have fb3 : ∃ b, s3.1 54 = b2i b := by rw [f2.1 54 (by decide), v2.1 54 (by decide)]; exact h.fb
    have jr3 : ∃ j, s3.1 60 = nI j ∧ j ≤ 404 * n := by rw [f2.1 60 (by decide), v2.1 60 (by decide)]; exact h.jr
    have B3 : MB s3 z := B2.x5 f2 (by decide) (by simp) (by simp)
    have Q3 : MQu s3 z := Q2.x5 f2 (by decide) (by simp) (by simp) (by simp)
    have M3 : M0 s3 := M2.x f2 (by decide) (by simp) (by simp)
    have X3 : MXt s3 z.txs := X2.x f2 (by decide) (by simp) (by simp)
    have an3 : AN s3 [] := an2.x f2 (by decide) (by simp)
    have mkCX : ∀ {S4 : hS} {g4 : hG}, KP S3 S4 → KA S3 S4 → HZ S4 z g4 q u L [] → HTx S4 z.txs → S4.1.length ≤ S3.1.length + 1 → CX n S4 s3 z g4 q u L := fun {S4 g4} kp ka hz4 hc4 hl4 => ⟨sg.tr (z' := z) kp ka.i202 f2 (by decide) (by simp) rfl, hz4, B3, Q3, M3, hc4, X3, h.ok, h.ot, h.gd, h.na, h.us, h.sh, fb3, h.lb, cx_ln (by rw [← sh3]; exact hl4) hln, jr3, hA3.ka ka, an3, up3⟩
    rcases alt with ⟨rfl, nm⟩ | ⟨rfl, M, k, tx, ok, msg⟩
    · -- no message
      have hV : V = 1 := by
        rcases f3 with ⟨c, _⟩ | ⟨M, k, d1, d2, _⟩
        · exact c
        · exact absurd d2 (nm M k (d1.cg txj))
      subst hV
      have cx := mkCX KP.rf KA.rf z3 x3 (by omega)
      obtain ⟨S', s', p1, p2, p3⟩ := cx.verd hn (v := 1) (Or.inr ⟨1, by omega, rfl⟩) (by decide)
      refine ⟨1, S', s', ?_, p2 _, p3⟩
      rw [if_pos rfl, Option.bind_some]
      show (if (1 : Int32) = 0 then _ else ((h_An_putVerdict 1 S3).bind fun q74 => some ((1 : Int32), q74))) = _
      rw [if_neg (by decide), p1]; rfl
    · have hk : k < 15 := ok.1.1
      have hlM := tx.len
      have hN123 := ok.l123
      obtain ⟨hV, hs4, hs5⟩ : V = vAll z k M ∧ s3.1 4 = nI k ∧ (vAll z k M = 0 → ∃ p, z.fm (sl M 3 4) = some p ∧ s3.1 5 = nI p) := by
        rcases f3 with ⟨_, c⟩ | ⟨M', k', d1, d2, d3, d4, d5⟩
        · exact absurd ok (c M k (tx.cg (fun j hj => (txj j hj).symm)))
        · have eM : M' = M := (d1.cg txj).un tx
          subst eM
          have ek : k' = k := okM_un d2 ok
          subst ek
          exact ⟨d3, d4, d5⟩
      subst hV
      have tx' : TXT (S3.2.2.2.2.1 1) M.length M := by rw [hlM]; exact tx
      have tx3 : TXT (s3.2.2.1 24) M.length M := by
        rw [f2.2.2.1 24 (by simp), hlM]
        exact tx.cg (fun j hj => (txj j hj).symm)
      obtain ⟨S4, g4, j1, j2, j3, j4, j5, j6, j7, j8⟩ := h_judge z3 h.ok (by omega) x3 h.ot hk ok tx' msg sg.t1 (by rw [sh3]; omega)
      have cx := mkCX j4 j5 j2 j3 j6
      rw [if_neg (show ¬ (1 : Int32) = 0 by decide), j1, Option.bind_some, Option.bind_some]
      show ∃ r S' s', (if (vAll z k M : Int32) = 0 then (if ((S4.2.1 804 2) : Int32) = 14 then ((h_De_carryOut S4).bind fun q40 => (some (1, q40))) else ((h_Di_writeRecord (nI N) S4).bind fun q51 => (if ¬ (q51.1 : Int32) = 0 then ((h_De_carryOut q51.2).bind fun q63 => (some (1, q63))) else (some (2, q51.2))))) else ((h_An_putVerdict (vAll z k M) S4).bind fun q74 => (some (1, q74)))) = some (r, S') ∧ _
      by_cases v0 : vAll z k M = 0
      · obtain ⟨p, p1, p2, p3, p4⟩ := j8 v0
        obtain ⟨p', p5, p6⟩ := hs5 v0
        rw [p1] at p5
        cases p5
        have hp := (fm_lt p1).1
        rw [v0, if_pos rfl, j7]
        by_cases c14 : k = 14
        · subst c14
          rw [if_pos (by decide)]
          obtain ⟨S', s', q1, q2, q3⟩ := cx.stm hn hp p4 p6
          refine ⟨1, S', s', by rw [q1]; rfl, ?_, q3⟩
          show (if (0 : Int32) ≤ 0 then (if ¬ (0 : Int32) = (-1) then (if ¬ ((s3.1 4) : Int32) = 14 then _ else ((d_Mo_statement s3).bind fun q94 => ((d_Mo_check q94).bind fun q103 => (some ((1 : Int32), q103))))) else _) else _) = _
          rw [if_pos (by decide), if_pos (by decide), hs4, if_neg (by decide)]
          exact q2
        · have n14 : ¬ nI k = (14 : Int32) := fun c => c14 (nI_inj (b := 14) (by omega) (by omega) c)
          rw [if_neg n14]
          show ∃ r S' s', _ ∧ (if (0 : Int32) ≤ 0 then (if ¬ (0 : Int32) = (-1) then (if ¬ ((s3.1 4) : Int32) = 14 then ((d_Mo_record (4 + nI N) s3).bind fun q47 => (if ¬ (q47.1 : Int32) = 0 then ((d_Mo_isKept q47.2).bind fun q57 => ((if (q57 : Int32) = 0 then (some q47.2) else ((d_Mo_keep q47.2).bind fun q85 => (some q85))).bind fun (u68 : mS) => ((d_Mo_answers u68).bind fun q75 => (some ((1 : Int32), q75))))) else (some (2, q47.2)))) else _) else _) else _) = some (r, s') ∧ _
          rw [if_pos (show (0 : Int32) ≤ 0 by decide), if_pos (show ¬ (0 : Int32) = (-1) by decide), hs4, if_pos n14]
          obtain ⟨rr, S5, s5, k1, k2, k3, k4, k5⟩ := cx.rec hn (N := N) (by omega)
          rw [k1, k2, Option.bind_some, Option.bind_some]
          rcases k5 with ⟨rfl, k6⟩ | ⟨rfl, cx5, k7, k8, k9, k10⟩
          · exact ⟨2, S5, s5, by rw [if_neg (show ¬ ¬ (0 : Int32) = 0 by decide)], by rw [if_neg (show ¬ ¬ (0 : Int32) = 0 by decide)], k6⟩
          · rw [if_pos (show ¬ (1 : Int32) = 0 by decide), if_pos (show ¬ (1 : Int32) = 0 by decide)]
            have m5 : MG S5 z k p M := p4.fr (fun j w1 w2 => k4.ei j (by simp; omega) _) (k4.el _ (by simp) _) (k4.el _ (by simp) _) (k4.a 5 (by simp)) (k4.b 6 (by simp)) rfl rfl
            have h4' : s5.1 4 = nI k := by rw [k3.1 4 (by decide)]; exact hs4
            have h5' : s5.1 5 = nI p := by rw [k3.1 5 (by decide)]; exact p6
            have tx5 : TXT (s5.2.2.1 24) M.length M := by rw [k3.2.2.1 24 (by simp)]; exact tx3
            by_cases c13 : k = 13
            · subst c13
              obtain ⟨S', s', q1, q2, q3⟩ := cx5.res hn k7 k8 k9 k10 ok tx5 m5 h4' h5'
              refine ⟨1, S', s', by show ((h_De_carryOut S5).bind fun q63 => some ((1 : Int32), q63)) = _; rw [q1]; rfl, ?_, q3⟩
              show ((d_Mo_isKept s5).bind fun q57 => ((if (q57 : Int32) = 0 then (some s5) else ((d_Mo_keep s5).bind fun q85 => (some q85))).bind fun (u68 : mS) => ((d_Mo_answers u68).bind fun q75 => (some ((1 : Int32), q75))))) = _
              rw [d_kpt hk h4', Option.bind_some, if_pos (by decide), Option.bind_some, q2]; rfl
            · have h3' : s5.1 3 = nI M.length := by rw [k3.1 3 (by decide), f2.1 3 (by decide), e2N, hlM]
              have tx5h : TXT (S5.2.2.2.2.1 1) M.length M := by rw [k4.a 1 (by simp), j4.a1]; exact tx'
              obtain ⟨S', s', q1, q2, q3⟩ := cx5.act hn k7 k8 k9 k10 (by omega) ok tx5h tx5 p1 m5 p3 h3' h4' h5'
              exact ⟨1, S', s', by show ((h_De_carryOut S5).bind fun q63 => some ((1 : Int32), q63)) = _; rw [q1]; rfl, q2, q3⟩
      · obtain ⟨S', s', q1, q2, q3⟩ := cx.verd hn (vAll_rng z k M) v0
        exact ⟨1, S', s', by rw [if_neg v0, q1]; rfl, q2 _, q3⟩
  · rw [if_neg c2, if_neg c2]; exact ⟨0, S, s, rfl, rfl, z, g, q, u, L, h.mono⟩
end
