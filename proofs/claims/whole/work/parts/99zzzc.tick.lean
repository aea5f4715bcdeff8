/-! Time passes: tick after tick. -/
theorem nI_m50 {x : Nat} (h : x < 100000) : nI x - nI x / 50 * 50 = nI (x % 50) := by
  rw [show (50 : Int32) = nI 50 from rfl, nI_div' (by omega) (by omega) (by omega), nI_mul, nI_sub' (by omega)]
  congr 1
  omega
section
variable {n : Nat} {S S' : hS} {s s' : mS} {z : Z} {g : hG} {q u : List Ins} {L : Nat} {es : List (Ins × Bool)}
def tcA (v : Int32) (s : hS) : Option (Int32 × hS) := (if (((s.2.1 504 20) + 1) : Int32) < 1000 then (if (((s.2.1 504 20) + 1) : Int32) < 150 then (some (v, (hpI s 504 20 ((s.2.1 504 20) + 1)))) else (if (900 : Int32) < ((s.2.1 504 20) + 1) then (some (v, (hpI s 504 20 ((s.2.1 504 20) + 1)))) else (if ¬ ((((s.2.1 504 20) + 1) - ((s.2.1 504 20) + 1) / 50 * 50) : Int32) = 0 then (some (v, (hpI s 504 20 ((s.2.1 504 20) + 1)))) else ((h_Qu_resolve (hpI s 504 20 ((s.2.1 504 20) + 1))).bind fun q38 => ((h_Qu_settleAllThatCan q38).bind fun q49 => (some (v, q49))))))) else ((h_De_beginDay (hpI s 504 20 ((s.2.1 504 20) + 1))).bind fun q60 => (some (1, q60))))
def tcB (s : hS) : Option hS := (if ¬ ((s.2.1 504 20) : Int32) = 900 then (some s) else ((h_Qu_sendAllBack s).bind fun q23 => (some q23)))
def trA (v : Int32) (s : mS) : Option (Int32 × mS) := (if ¬ (((s.1 56) + 1) : Int32) = 1000 then (some (v, (mI s 56 ((s.1 56) + 1)))) else ((d_Mo_newDay (mI s 56 ((s.1 56) + 1))).bind fun q72 => (some (1, q72))))
def trB (s : mS) : Option mS := (if ((s.1 56) : Int32) < 150 then (some s) else (if (900 : Int32) < (s.1 56) then (some s) else (if ¬ (((s.1 56) - (s.1 56) / 50 * 50) : Int32) = 0 then (some s) else ((d_Mo_resolve s).bind fun q62 => (some q62)))))
def trC (s : mS) : Option mS := (if ¬ ((s.1 56) : Int32) = 900 then (some s) else ((d_Mo_endDay s).bind fun q50 => (some q50)))
theorem tc_eq (fu : Nat) (v1 v2 v3 : Int32) (s : hS) : hl_De_letPass_4 (fu + 1) v1 v2 v3 s = if (v1 : Int32) ≤ v3 then (some (v2, s)) else ((tcA v2 s).bind fun (u6 : Int32 × hS) => ((tcB u6.2).bind fun (u14 : hS) => (hl_De_letPass_4 fu v1 u6.1 (v3 + 1) u14))) := rfl
theorem tr_eq (fu : Nat) (v1 v2 v3 : Int32) (s : mS) : l_Mo_tick_40 (fu + 1) v1 v2 v3 s = if (v1 : Int32) ≤ v3 then (some (v2, s)) else ((trA v2 s).bind fun (u28 : Int32 × mS) => ((trB u28.2).bind fun (u35 : mS) => ((trC u35).bind fun (u42 : mS) => (l_Mo_tick_40 fu v1 u28.1 (v3 + 1) u42)))) := rfl
theorem TK.step (h : TK true n S s z g q u L es) (hn : n ≤ 512) (hM : S.1.length ≤ am_M + 1) (hL : L < 1999900000) (b : Bool) : ∃ b' SA SB sA sB sC z' q' u' L' es', tcA (b2i b) S = some (b2i b', SA) ∧ tcB SA = some SB ∧ trA (b2i b) s = some (b2i b', sA) ∧ trB sA = some sB ∧ trC sB = some sC ∧ TK true n SB sC z' g q' u' L' es' ∧ L' ≤ L + 753 ∧ SB.1 = S.1 ∧ sC.1 60 = s.1 60 ∧ sC.1 57 = s.1 57 := by
  have hT := h.ok.tick
  obtain ⟨T, hTz⟩ : ∃ T, T = z.tick := ⟨_, rfl⟩
  have i1 : S.2.1 504 20 + 1 = nI (T + 1) := by rw [h.t1, ← hTz]; exact nI_add1 T
  have i2 : s.1 56 + 1 = nI (T + 1) := by rw [h.t2, ← hTz]; exact nI_add1 T
  by_cases c1000 : T + 1 = 1000
  · have e1000 : nI (T + 1) = (1000 : Int32) := by rw [c1000]; rfl
    obtain ⟨S2, s', a1, a2, a3, a4, a5, a6⟩ := h.day hM (h.sh rfl (by omega))
    have t5 : S2.2.1 504 20 = 0 := a3.t1
    have t6 : s'.1 56 = 0 := a3.t2
    refine ⟨true, S2, S2, s', s', s', _, q, u, L, es, ?_, ?_, ?_, ?_, ?_, a3, by omega, a4, a5, a6⟩
    · unfold tcA
      rw [i1, e1000, if_neg (by decide), a1]; rfl
    · unfold tcB
      rw [t5, if_pos (by decide)]
    · unfold trA
      rw [i2, e1000, if_neg (by decide), a2]; rfl
    · unfold trB
      rw [t6, if_pos (by decide)]
    · unfold trC
      rw [t6, if_pos (by decide)]
  · have lt1000 : nI (T + 1) < (1000 : Int32) := (nI_lt' (b := 1000) (by omega) (by omega)).mpr (by omega)
    have ne1000 : ¬ nI (T + 1) = (1000 : Int32) := fun c => c1000 (nI_inj (b := 1000) (by omega) (by omega) c)
    have hrA : trA (b2i b) s = some (b2i b, mI s 56 (nI (T + 1))) := by
      unfold trA
      rw [i2, if_pos ne1000]
    have j56 : (mI s 56 (nI (T + 1))).1 56 = nI (T + 1) := by simp [mI, va_up]
    have j504 : (hpI S 504 20 (nI (T + 1))).2.1 504 20 = nI (T + 1) := by simp [hpI, up2]
    -- before the end of the day, in the house as it is
    by_cases cR : 150 ≤ T + 1 ∧ T + 1 ≤ 900 ∧ (T + 1) % 50 = 0
    · have b1 : ¬ nI (T + 1) < (150 : Int32) := fun c => by have := (nI_lt' (b := 150) (by omega) (by omega)).mp c; omega
      have b2 : ¬ (900 : Int32) < nI (T + 1) := fun c => by have := (nI_lt' (a := 900) (by omega) (by omega)).mp c; omega
      have b3 : ¬ ¬ nI (T + 1) - nI (T + 1) / 50 * 50 = (0 : Int32) := fun c => c (by rw [nI_m50 (by omega), cR.2.2]; rfl)
      have w : hX [504] [] [] [] [] [] S (hpI S 504 20 (nI (T + 1))) := hX.pI hX.rf (by decide)
      have hclk := h.clk hM (T := T + 1) (by omega) (o' := decide (T + 1 < 900)) (fun c c2 => by have := of_decide_eq_true c; omega)
      obtain ⟨S1, S2, s', C, L', r1, r2, r3, r4, r5, r6, r7, r8, r9⟩ := hclk.res hn (by rw [w.sh]; exact hM) hL
      have k504 : S2.2.1 504 20 = nI (T + 1) := by rw [r4.t1, r9]; rfl
      have k56 : s'.1 56 = nI (T + 1) := by rw [r4.t2, r9]; rfl
      have cA : tcA (b2i b) S = some (b2i b, S2) := by
        unfold tcA
        rw [i1, if_pos lt1000, if_neg b1, if_neg b2, if_neg b3, r1, Option.bind_some, r2]; rfl
      have rB : trB (mI s 56 (nI (T + 1))) = some s' := by
        unfold trB
        rw [j56, if_neg b1, if_neg b2, if_neg b3, r3]; rfl
      by_cases c9 : T + 1 = 900
      · have e900 : nI (T + 1) = (900 : Int32) := by rw [c9]; rfl
        obtain ⟨S3, s3, d1, d2, d3, d4, d5, d6⟩ := r4.bk hn (by rw [r6, w.sh]; exact hM)
        refine ⟨b, _, _, _, _, _, _, [], [], L', _, cA, ?_, hrA, rB, ?_, d3, r5, by rw [d4, r6, w.sh], by rw [d5, r7]; rfl, by rw [d6, r8]; rfl⟩
        · unfold tcB
          rw [k504, e900, if_neg (by decide), d1]; rfl
        · unfold trC
          rw [k56, e900, if_neg (by decide), d2]; rfl
      · have n900 : ¬ nI (T + 1) = (900 : Int32) := fun c => c9 (nI_inj (b := 900) (by omega) (by omega) c)
        rw [decide_eq_true (show T + 1 < 900 by omega)] at r4
        refine ⟨b, _, _, _, _, _, _, _, u, L', _, cA, ?_, hrA, rB, ?_, r4, r5, by rw [r6, w.sh], by rw [r7]; rfl, by rw [r8]; rfl⟩
        · unfold tcB
          rw [k504, if_pos n900]
        · unfold trC
          rw [k56, if_pos n900]
    · have hsh : true = true → 900 ≤ T + 1 → z.ins = [] := fun _ c => h.sh rfl (by omega)
      have hclk := h.clk hM (T := T + 1) (by omega) hsh
      have cA : tcA (b2i b) S = some (b2i b, hpI S 504 20 (nI (T + 1))) := by
        unfold tcA
        rw [i1, if_pos lt1000]
        by_cases d1 : T + 1 < 150
        · rw [if_pos (show nI (T + 1) < (150 : Int32) from (nI_lt' (b := 150) (by omega) (by omega)).mpr d1)]
        · rw [if_neg (show ¬ nI (T + 1) < (150 : Int32) from fun c => d1 ((nI_lt' (b := 150) (by omega) (by omega)).mp c))]
          by_cases d2 : 900 < T + 1
          · rw [if_pos (show (900 : Int32) < nI (T + 1) from (nI_lt' (a := 900) (by omega) (by omega)).mpr d2)]
          · rw [if_neg (show ¬ (900 : Int32) < nI (T + 1) from fun c => d2 ((nI_lt' (a := 900) (by omega) (by omega)).mp c)), if_pos (show ¬ nI (T + 1) - nI (T + 1) / 50 * 50 = (0 : Int32) from fun c => by
              rw [nI_m50 (by omega)] at c
              have := (nI_e0 (by omega)).mp c
              omega)]
      have rB : trB (mI s 56 (nI (T + 1))) = some (mI s 56 (nI (T + 1))) := by
        unfold trB
        rw [j56]
        by_cases d1 : T + 1 < 150
        · rw [if_pos (show nI (T + 1) < (150 : Int32) from (nI_lt' (b := 150) (by omega) (by omega)).mpr d1)]
        · rw [if_neg (show ¬ nI (T + 1) < (150 : Int32) from fun c => d1 ((nI_lt' (b := 150) (by omega) (by omega)).mp c))]
          by_cases d2 : 900 < T + 1
          · rw [if_pos (show (900 : Int32) < nI (T + 1) from (nI_lt' (a := 900) (by omega) (by omega)).mpr d2)]
          · rw [if_neg (show ¬ (900 : Int32) < nI (T + 1) from fun c => d2 ((nI_lt' (a := 900) (by omega) (by omega)).mp c)), if_pos (show ¬ nI (T + 1) - nI (T + 1) / 50 * 50 = (0 : Int32) from fun c => by
              rw [nI_m50 (by omega)] at c
              have := (nI_e0 (by omega)).mp c
              omega)]
      have n900 : ¬ nI (T + 1) = (900 : Int32) := fun c => by have := nI_inj (b := 900) (by omega) (by omega) c; omega
      refine ⟨b, _, _, _, _, _, _, q, u, L, es, cA, ?_, hrA, rB, ?_, hclk, by omega, rfl, rfl, rfl⟩
      · unfold tcB
        rw [j504, if_pos n900]
      · unfold trC
        rw [j56, if_pos n900]
set_option maxRecDepth 10000 in
theorem tick_loop {N : Nat} (hN : N ≤ 1000) (hn : n ≤ 512) {L0 : Nat} (hL0 : L0 < 1990000000) : ∀ (d fu j : Nat) (S : hS) (s : mS) (z : Z) (q u : List Ins) (L : Nat) (es : List (Ins × Bool)) (b : Bool), TK true n S s z g q u L es → S.1.length ≤ am_M + 1 → L ≤ L0 + 753 * j → N - j = d → d < fu → j ≤ N → ∃ S' s' z' q' u' L' es' b', hl_De_letPass_4 fu (nI N) (b2i b) (nI j) S = some (b2i b', S') ∧ l_Mo_tick_40 fu (nI N) (b2i b) (nI j) s = some (b2i b', s') ∧ TK true n S' s' z' g q' u' L' es' ∧ L' ≤ L0 + 753 * N ∧ S'.1 = S.1 ∧ s'.1 60 = s.1 60 ∧ s'.1 57 = s.1 57 := by
  intro d
  induction d with
  | zero =>
    intro fu j S s z q u L es b h hM hL hd hf hj
    obtain ⟨fu, rfl⟩ : ∃ f, fu = f + 1 := ⟨fu - 1, by omega⟩
    rw [tc_eq, tr_eq, if_pos (nI_le0 (by omega) (by omega) (by omega)), if_pos (nI_le0 (by omega) (by omega) (by omega))]
    exact ⟨S, s, z, q, u, L, es, b, rfl, rfl, h, by rw [show N = j by omega]; exact hL, rfl, rfl, rfl⟩
  | succ d ih =>
    intro fu j S s z q u L es b h hM hL hd hf hj
    obtain ⟨fu, rfl⟩ : ∃ f, fu = f + 1 := ⟨fu - 1, by omega⟩
    obtain ⟨b', SA, SB, sA, sB, sC, z', q', u', L', es', a1, a2, a3, a4, a5, a6, a7, a8, a9, a10⟩ := h.step hn hM (by omega) b
    obtain ⟨S2, s2, z2, q2, u2, L2, es2, b2, r1, r2, r3, r4, r5, r6, r7⟩ := ih fu (j + 1) SB sC z' q' u' L' es' b' a6 (by rw [a8]; exact hM) (by omega) (by omega) (by omega) (by omega)
    rw [tc_eq, tr_eq, if_neg (nI_ngt (by omega) (by omega) (by omega)), if_neg (nI_ngt (by omega) (by omega) (by omega)), a1, Option.bind_some, a2, Option.bind_some, a3, Option.bind_some, a4, Option.bind_some, a5, Option.bind_some, nI_add1]
    exact ⟨S2, s2, z2, q2, u2, L2, es2, b2, r1, r2, r3, r4, r5.trans a8, r6.trans a9, r7.trans a10⟩
end
