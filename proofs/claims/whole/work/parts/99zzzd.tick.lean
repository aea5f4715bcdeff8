/-! Letting time pass. -/
section
variable {n : Nat} {S S' : hS} {s s' : mS} {z : Z} {g : hG} {q u : List Ins} {L : Nat} {es : List (Ins × Bool)}
/-- what happened is told -/
theorem TK.tell (h : TK true n S s z g q u L es) (hM : S.1.length ≤ am_M + 1) (lb : L ≤ 800000 * (n + 1)) (ln : S.1.length ≤ 60 + 300 * (n + 1)) (jr : ∃ j, s.1 60 = nI j ∧ j ≤ 404 * (n + 1)) (up : ¬ s.1 57 = 0) : ∃ S', h_Qu_tell S = some S' ∧ IN (n + 1) S' s := by
  have hlen := h.hz.O.len
  obtain ⟨S', a1, a2, a3, w⟩ := h_tell h.hz.O h.hA h.ok.cod h.he (by show 0 + _ ≤ 6000; omega)
  rw [List.nil_append] at a2
  have htl : (telB z es).length = 14 * es.length := tel_len h.ok.cod (fun e he => ⟨(h.he e he).1, (h.he e he).2.1⟩)
  refine ⟨S', a1, z, g, q, u, L, ⟨?_, h.tb, ⟨(telB z es).length, 0, by omega, by omega, a2.1, h.rs.2.2.2.1, by rw [w.ei 202 (by decide)]; exact h.e1, h.e2, fun j hj => ?_⟩, ?_, by rw [w.ei 503 (by decide)]; exact h.dy, h.hz.tl w a3, h.rs.1, h.rs.2.1, h.rs.2.2.1, by rw [w.ei 504 (by decide)]; exact h.t1, h.t2, h.hc.x hM w (by decide) (by simp) (by simp) (fun k hk => Or.inl (by rw [List.mem_singleton] at hk; omega)) (by simp), h.hx, h.ok.up, h.ot.up, h.gd, h.na, h.us, h.sh rfl, h.fl, h.fb, lb, by rw [w.sh]; exact ln, jr, fun c => absurd c up⟩⟩
  · obtain ⟨t, p1, p2, p3, p4⟩ := h.tp
    exact ⟨t, p1, by rw [w.ei 1 (by decide)]; exact p2, p3, fun j hj => by rw [w.a 1 (by decide)]; exact p4 j hj⟩
  · obtain ⟨b, hb'⟩ := get_lt (ks := telB z es) hj
    rw [a2.2 j b hb', h.rs.2.2.2.2 j b hb']
  · obtain ⟨d1, d2, d3, d4⟩ := h.dk
    exact ⟨by rw [w.ei 600 (by decide)]; exact d1, by rw [w.ei 601 (by decide)]; exact d2, by rw [w.ei 602 (by decide)]; exact d3, by rw [w.ei 603 (by decide)]; exact d4⟩
/-- writing to the disk leaves it so -/
theorem TK.dsk (h : TK true n S s z g q u L es) (hM : S.1.length ≤ am_M + 1) (w : hX [600, 601, 602, 603] [] [] [] [] [] S S') (v : mX [7, 8, 57, 58, 59, 60] [] [] [] s s') (dk : rDisk S' s') (h7 : s'.1 7 = s.1 7) (h8 : s'.1 8 = s.1 8) : TK true n S' s' z g q u L es := by
  have gw : GW S S' := GW.ofX w (by decide) (by simp) (by simp) (by simp) (by simp) rfl
  refine ⟨h.tp.x w v (by decide) (by simp) (by decide) (by simp), by rw [v.2.2.1 23 (by simp)]; exact h.tb, dk, by rw [w.ei 503 (by decide), v.1 55 (by decide)]; exact h.dy, h.hz.w gw, ⟨h.rs.1.x5 v (by decide) (by simp) (by simp), h.rs.2.1.x5 v (by decide) (by simp) (by simp) (by simp), h.rs.2.2.1.x v (by decide) (by simp) (by simp), ⟨by rw [h7]; exact h.rs.2.2.2.1, by rw [v.2.2.1 25 (by simp)]; exact h.rs.2.2.2.2⟩⟩, by rw [w.ei 504 (by decide)]; exact h.t1, by rw [v.1 56 (by decide)]; exact h.t2, h.hc.x hM w (by decide) (by simp) (by simp) (by simp) (by simp), h.hx.x v (by decide) (by simp) (by simp), h.ok, h.ot, h.gd, h.na, h.us, h.sh, by rw [v.1 61 (by decide)]; exact h.fl, by rw [v.1 54 (by decide)]; exact h.fb, h.he, h.hA.x w (by decide) (by simp), by rw [w.ei 202 (by decide)]; exact h.e1, by rw [h8]; exact h.e2⟩
/-- the power goes: nothing is told -/
theorem TK.down (h : TK true n S s z g q u L es) (hM : S.1.length ≤ am_M + 1) (w : hX [600, 601, 602, 603] [] [] [] [] [] S S') (v : mX [7, 8, 57, 58, 59, 60] [] [] [] s s') (dk : rDisk S' s') (h7 : s'.1 7 = 0) (h8 : s'.1 8 = 0) (lb : L ≤ 800000 * (n + 1)) (ln : S.1.length ≤ 60 + 300 * (n + 1)) (jr : ∃ j, s'.1 60 = nI j ∧ j ≤ 404 * (n + 1)) : IN (n + 1) (hpI S' 1105 16 0) s' := by
  have x : hX [600, 601, 602, 603, 1105] [] [] [] [] [] S (hpI S' 1105 16 0) := (w.mono (by decide) (by simp) (by simp) (by simp) (by simp) (by simp)).pI (by decide)
  have gw : GW S S' := GW.ofX w (by decide) (by simp) (by simp) (by simp) (by simp) rfl
  have z1 := h.hz.w gw
  have y : hX [201, 1105] [] [] [8] [] [] S' (hpI S' 1105 16 0) := hX.rf.pI (by decide)
  have hO : HO (hpI S' 1105 16 0) z g [] := ⟨by simp [hpI, up2]; rfl, (fun j e he => by cases he), (fun e he => by cases he), by have := h.hz.O.len; show 0 + z.ins.length ≤ 250; omega⟩
  have hA : HAn (hpI S' 1105 16 0) [] := h.hA.x x (by decide) (by simp)
  refine ⟨z, g, q, u, L, ⟨h.tp.x x v (by decide) (by simp) (by decide) (by simp), by rw [v.2.2.1 23 (by simp)]; exact h.tb, ⟨0, 0, by omega, by omega, hA.1, h7, by rw [x.ei 202 (by decide)]; exact h.e1, h8, fun j hj => by omega⟩, ?_, by rw [x.ei 503 (by decide), v.1 55 (by decide)]; exact h.dy, z1.tl y hO, h.rs.1.x5 v (by decide) (by simp) (by simp), h.rs.2.1.x5 v (by decide) (by simp) (by simp) (by simp), h.rs.2.2.1.x v (by decide) (by simp) (by simp), by rw [x.ei 504 (by decide)]; exact h.t1, by rw [v.1 56 (by decide)]; exact h.t2, h.hc.x hM x (by decide) (by simp) (by simp) (by simp) (by simp), h.hx.x v (by decide) (by simp) (by simp), h.ok.up, h.ot.up, h.gd, h.na, h.us, h.sh rfl, by rw [v.1 61 (by decide)]; exact h.fl, by rw [v.1 54 (by decide)]; exact h.fb, lb, by rw [x.sh]; exact ln, jr, fun _ => ⟨h7, h8⟩⟩⟩
  obtain ⟨d1, d2, d3, d4⟩ := dk
  exact ⟨d1, d2, d3, d4⟩
theorem TK.down0 (h : TK true n S s z g q u L []) (hM : S.1.length ≤ am_M + 1) (w : hX [600, 601, 602, 603] [] [] [] [] [] S S') (v : mX [7, 8, 57, 58, 59, 60] [] [] [] s s') (dk : rDisk S' s') (h7 : s'.1 7 = 0) (h8 : s'.1 8 = 0) (lb : L ≤ 800000 * (n + 1)) (ln : S.1.length ≤ 60 + 300 * (n + 1)) (jr : ∃ j, s'.1 60 = nI j ∧ j ≤ 404 * (n + 1)) : IN (n + 1) S' s' := by
  have gw : GW S S' := GW.ofX w (by decide) (by simp) (by simp) (by simp) (by simp) rfl
  have hA : HAn S' [] := h.hA.x w (by decide) (by simp)
  exact ⟨z, g, q, u, L, ⟨h.tp.x w v (by decide) (by simp) (by decide) (by simp), by rw [v.2.2.1 23 (by simp)]; exact h.tb, ⟨0, 0, by omega, by omega, hA.1, h7, by rw [w.ei 202 (by decide)]; exact h.e1, h8, fun j hj => by omega⟩, dk, by rw [w.ei 503 (by decide), v.1 55 (by decide)]; exact h.dy, h.hz.w gw, h.rs.1.x5 v (by decide) (by simp) (by simp), h.rs.2.1.x5 v (by decide) (by simp) (by simp) (by simp), h.rs.2.2.1.x v (by decide) (by simp) (by simp), by rw [w.ei 504 (by decide)]; exact h.t1, by rw [v.1 56 (by decide)]; exact h.t2, h.hc.x hM w (by decide) (by simp) (by simp) (by simp) (by simp), h.hx.x v (by decide) (by simp) (by simp), h.ok.up, h.ot.up, h.gd, h.na, h.us, h.sh rfl, by rw [v.1 61 (by decide)]; exact h.fl, by rw [v.1 54 (by decide)]; exact h.fb, lb, by rw [w.sh]; exact ln, jr, fun _ => ⟨h7, h8⟩⟩⟩
theorem snap_bd (hO : okZ n z) (hn : n ≤ 512) : -10000 ≤ snapN z ∧ snapN z ≤ 1000000 := by
  have h1 := hO.mem
  have h2 := hO.ast
  have h3 := hO.lims
  have h4 := sumN_bd (amtF_le z) 16384
  unfold snapN
  omega
set_option maxRecDepth 10000 in
theorem tk_lb {a b n : Nat} (h1 : a ≤ b + 753 * 1000) (h2 : b ≤ 800000 * n) : a ≤ 800000 * (n + 1) := by omega
set_option maxRecDepth 10000 in
theorem tk_ln {a n : Nat} (h2 : a ≤ 60 + 300 * n) : a ≤ 60 + 300 * (n + 1) := by omega
theorem i_tick (h : INV n S s z g q u L) (hn : n < 512) (a : Int32) : ∃ r S' s', h_Ho_tick a S = some (r, S') ∧ d_Mo_tick a s = some (r, s') ∧ IN (n + 1) S' s' := by
  have hM : S.1.length ≤ am_M + 1 := h.am (by omega)
  have hln := tk_ln h.ln
  have hlb := h.lb
  unfold h_Ho_tick d_Mo_tick
  rw [h.dk.1]
  by_cases c0 : s.1 57 = 0
  · rw [if_pos c0, if_pos c0]; exact ⟨0, S, s, rfl, rfl, z, g, q, u, L, h.mono⟩
  rw [if_neg c0, if_neg c0]
  by_cases c1 : a < 1
  · rw [if_pos c1, if_pos c1]; exact ⟨0, S, s, rfl, rfl, z, g, q, u, L, h.mono⟩
  rw [if_neg c1, if_neg c1]
  by_cases c2 : a ≤ 1000
  · rw [if_pos c2, if_pos c2]
    obtain ⟨N, rfl, hN⟩ := i32N (ge1 c1)
    have hNt : N ≤ 1000 := (nI_le' (b := 1000) (by omega) (by omega)).mp c2
    obtain ⟨S1, hS1⟩ : ∃ S1, S1 = hpI (hpI S 201 7 0) 202 7 0 := ⟨_, rfl⟩
    obtain ⟨s1, hs1⟩ : ∃ s1, s1 = mI (mI s 7 0) 8 0 := ⟨_, rfl⟩
    have e1 : h_An_clear S = some S1 := by rw [hS1]; rfl
    have e2 : d_Mo_silence s = some s1 := by rw [hs1]; rfl
    have w1 : hX [201, 202] [] [] [] [] [] S S1 := by rw [hS1]; exact (hX.rf.pI (by decide)).pI (by decide)
    have v1 : mX [7, 8] [] [] [] s s1 := by rw [hs1]; exact (mX.rf.I (by decide)).I (by decide)
    have gw1 : GW S S1 := GW.ofX w1 (by decide) (by simp) (by simp) (by simp) (by simp) rfl
    have tk1 : TK true n S1 s1 z g q u L [] := ⟨h.tp.x w1 v1 (by decide) (by simp) (by decide) (by simp), by rw [v1.2.2.1 23 (by simp)]; exact h.tb, h.dk.x w1 v1 (by decide) (by decide), by rw [w1.ei 503 (by decide), v1.1 55 (by decide)]; exact h.dy, h.hz.w gw1, ⟨h.hb.x5 v1 (by decide) (by simp) (by simp), h.hq.x5 v1 (by decide) (by simp) (by simp) (by simp), h.m0.x v1 (by decide) (by simp) (by simp), ⟨by rw [hs1]; simp [mI, va_up]; rfl, fun j b hb => by cases hb⟩⟩, by rw [w1.ei 504 (by decide)]; exact h.t1, by rw [v1.1 56 (by decide)]; exact h.t2, h.hc.x hM w1 (by decide) (by simp) (by simp) (by simp) (by simp), h.hx.x v1 (by decide) (by simp) (by simp), h.ok, h.ot, h.gd, h.na, h.us, fun _ => h.sh, by rw [v1.1 61 (by decide)]; exact h.fl, by rw [v1.1 54 (by decide)]; exact h.fb, (fun e he => by cases he), ⟨by rw [hS1]; simp [hpI, up2]; rfl, fun j b hb => by cases hb⟩, by rw [hS1]; simp [hpI, up2]; rfl, by rw [hs1]; simp [mI, va_up]; rfl⟩
    have hM1 : S1.1.length ≤ am_M + 1 := by rw [w1.sh]; exact hM
    rw [e1, e2, Option.bind_some, Option.bind_some]
    obtain ⟨j, j1, j2⟩ := h.jr
    have j1' : s1.1 60 = nI j := by rw [v1.1 60 (by decide)]; exact j1
    obtain ⟨r, S2, s2, a1, a2, a3, a4, a5, a6⟩ := record_both S1 s1 tk1.dk j 4 j1' (by omega) (by omega)
    have a1' : h_Di_writeRecord 4 S1 = some (r, S2) := a1
    have a2' : d_Mo_record 8 s1 = some (r, s2) := a2
    have w2 : hX [600, 601, 602, 603] [] [] [] [] [] S1 S2 := a4.x kDi_in
    have v2 : mX [7, 8, 57, 58, 59, 60] [] [] [] s1 s2 := a5.x kMd_in
    rw [a1', a2', Option.bind_some, Option.bind_some]
    rcases a6 with ⟨rfl, r7, r8, r57, r60⟩ | ⟨rfl, r7, r8, r57, r60⟩
    · have tk2 := tk1.dsk hM1 w2 v2 a3 r7 r8
      have hM2 : S2.1.length ≤ am_M + 1 := by rw [w2.sh]; exact hM1
      have up2' : ¬ s2.1 57 = 0 := by rw [r57, v1.1 57 (by decide)]; exact c0
      rw [if_pos (show ¬ (1 : Int32) = 0 by decide), if_pos (show ¬ (1 : Int32) = 0 by decide)]
      obtain ⟨S3, s3, z3, q3, u3, L3, es3, b3, k1, k2, k3, k4, k5, k6, k7⟩ := tick_loop (N := N) hNt (n := n) (by omega) (L0 := L) (by omega) _ 100000 0 S2 s2 z q u L [] false tk2 hM2 (by omega) rfl (by omega) (by omega)
      have k1' : hl_De_letPass_4 100000 (nI N) 0 0 S2 = some (b2i b3, S3) := k1
      have k2' : l_Mo_tick_40 100000 (nI N) 0 0 s2 = some (b2i b3, s3) := k2
      have lp : h_De_letPass (nI N) S2 = some (b2i b3, S3) := by
        unfold h_De_letPass
        rw [k1', Option.bind_some, if_pos (show b2i b3 = (0 : Int32) ∨ b2i b3 = 1 by cases b3 <;> decide)]
      have hM3 : S3.1.length ≤ am_M + 1 := by rw [k5]; exact hM2
      have lb3 : L3 ≤ 800000 * (n + 1) := tk_lb (Nat.le_trans k4 (Nat.add_le_add_left (Nat.mul_le_mul_left 753 hNt) L)) hlb
      have ln3 : S3.1.length ≤ 60 + 300 * (n + 1) := by rw [k5, w2.sh, w1.sh]; exact hln
      have up3 : ¬ s3.1 57 = 0 := by rw [k7]; exact up2'
      have jr3 : ∃ j, s3.1 60 = nI j ∧ j ≤ 404 * (n + 1) := ⟨j + 4 + 4, by rw [k6]; exact r60, by omega⟩
      show ∃ r S' s', ((h_De_letPass (nI N) S2).bind fun q27 => _) = some (r, S') ∧ ((l_Mo_tick_40 100000 (nI N) 0 0 s2).bind fun q81 => _) = some (r, s') ∧ _
      rw [lp, k2', Option.bind_some, Option.bind_some]
      cases b3 with
      | false =>
        rw [if_pos (show b2i false = (0 : Int32) by decide), if_pos (show b2i false = (0 : Int32) by decide)]
        obtain ⟨S4, t1, t2⟩ := k3.tell hM3 lb3 ln3 jr3 up3
        exact ⟨1, S4, s3, by rw [t1]; rfl, rfl, t2⟩
      | true =>
        rw [if_neg (show ¬ b2i true = (0 : Int32) by decide), if_neg (show ¬ b2i true = (0 : Int32) by decide)]
        have ip : ∀ P, inL (z3.pos P) := fun P => by have := (k3.ok.b3 (by omega)).pos P; omega
        have il : ∀ P, inL (z3.pl P) := fun P => by have := (k3.ok.c (by omega)).2.2 P; omega
        have sb := h_snapB k3.hz.B k3.ok.x (fun a ha => (k3.ok.fc a ha).2) k3.ok.mpl ip il (fun P hP hq => ⟨(k3.ok.out P hP hq).1, (k3.ok.out P hP hq).2.1⟩)
        have db := d_snapB k3.rs.1 ip il
        obtain ⟨r, S4, s4, c1, c2, c3, c4, c5, c6⟩ := snap_both (S := S3) (s := s3) (z := z3) k3.dk (snap_bd k3.ok (by omega))
        have w4 : hX [600, 601, 602, 603] [] [] [] [] [] S3 S4 := c4.x kDi_in
        have v4 : mX [7, 8, 57, 58, 59, 60] [] [] [] s3 s4 := c5.x kMd_in
        have ds : d_Mo_snapshot s3 = some (r, s4) := by
          unfold d_Mo_snapshot
          rw [db, Option.bind_some]; exact c2
        show ∃ r S' s', ((h_Bo_snapshotBytes S3).bind fun q50 => _) = some (r, S') ∧ ((d_Mo_snapshot s3).bind fun q88 => _) = some (r, s') ∧ _
        rw [sb, ds, Option.bind_some, Option.bind_some]
        show ∃ r S' s', ((h_Di_writeSnapshot (Int32.ofInt (snapN z3)) S3).bind fun q58 => _) = some (r, S') ∧ _
        rw [c1, Option.bind_some]
        rcases c6 with ⟨rfl, d7, d8, d57, d60⟩ | ⟨rfl, d7, d8, d57, d60⟩
        · rw [if_pos (show ¬ (1 : Int32) = 0 by decide), if_pos (show ¬ (1 : Int32) = 0 by decide)]
          have tk4 := k3.dsk hM3 w4 v4 c3 d7 d8
          obtain ⟨S5, t1, t2⟩ := tk4.tell (by rw [w4.sh]; exact hM3) lb3 (by rw [w4.sh]; exact ln3) ⟨0, d60, by omega⟩ (by rw [d57]; exact up3)
          exact ⟨1, S5, s4, by show ((h_Qu_tell S4).bind fun q70 => some ((1 : Int32), q70)) = _; rw [t1]; rfl, rfl, t2⟩
        · rw [if_neg (show ¬ ¬ (0 : Int32) = 0 by decide), if_neg (show ¬ ¬ (0 : Int32) = 0 by decide)]
          exact ⟨2, hpI S4 1105 16 0, s4, rfl, rfl, k3.down hM3 w4 v4 c3 d7 d8 lb3 ln3 (by rw [d60]; exact jr3)⟩
    · rw [if_neg (show ¬ ¬ (0 : Int32) = 0 by decide), if_neg (show ¬ ¬ (0 : Int32) = 0 by decide)]
      exact ⟨2, S2, s2, rfl, rfl, tk1.down0 hM1 w2 v2 a3 r7 r8 (tk_lb (Nat.le_add_right L _) hlb) (by rw [w1.sh]; exact hln) ⟨j, r60, by omega⟩⟩
  · rw [if_neg c2, if_neg c2]; exact ⟨0, S, s, rfl, rfl, z, g, q, u, L, h.mono⟩
end
