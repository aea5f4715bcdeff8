/-! The class adds the legs. -/
theorem leg_net {fc : Option Nat} {l : Leg} (hf : l.f < 256) (ht : l.t < 256) (ha : l.a < 64) (hn : l.f ≠ l.t) (c : some l.a ≠ fc) (nt : Nat → Int) (P : Nat) : (if P = 64 * l.t + l.a then (if P = 64 * l.f + l.a then nt P + -(l.v : Int) else nt P) + (l.v : Int) else (if P = 64 * l.f + l.a then nt P + -(l.v : Int) else nt P)) = nt P + legN fc P l := by
  unfold legN
  rw [if_neg c]
  generalize l.f = f at *
  generalize l.t = t at *
  generalize l.a = a at *
  by_cases h : P < 16384
  · rw [if_pos h]
    by_cases h1 : P = 64 * t + a
    · rw [if_pos h1, if_neg (by omega), if_pos (by omega), if_pos (by omega)]
    · rw [if_neg h1]
      by_cases h2 : P = 64 * f + a
      · rw [if_pos h2, if_pos (by omega), if_neg (by omega), if_pos (by omega)]
      · rw [if_neg h2]
        by_cases h3 : a = P % 64
        · rw [if_pos h3, if_neg (by omega), if_neg (by omega), Int.add_zero]
        · rw [if_neg h3, Int.add_zero]
  · rw [if_neg h, if_neg (by omega), if_neg (by omega), Int.add_zero]
theorem leg_netF {fc : Option Nat} {l : Leg} (hf : l.f < 256) (ht : l.t < 256) (ha : l.a < 64) (hn : l.f ≠ l.t) (c : some l.a = fc) (nt m1 m2 m3 m4 : Nat → Int) (e1 : ∀ P, m1 P = if P = 64 * l.f + l.a then nt P + -(l.v : Int) else nt P) (e2 : ∀ P, m2 P = if P = 64 * l.t + l.a then m1 P + (l.v : Int) else m1 P) (e3 : ∀ P, m3 P = if P = 16384 + (256 * l.f + l.t) then m2 P + -(l.v : Int) else m2 P) (e4 : ∀ P, m4 P = if P = 16384 + (256 * l.t + l.f) then m3 P + (l.v : Int) else m3 P) (P : Nat) : m4 P = nt P + legN fc P l := by
  rw [e4, e3, e2, e1]
  unfold legN
  rw [if_pos c]
  generalize l.f = f at *
  generalize l.t = t at *
  generalize l.a = a at *
  by_cases h : P < 16384
  · rw [if_pos h, if_neg (show ¬ P = 16384 + (256 * t + f) by omega), if_neg (show ¬ P = 16384 + (256 * f + t) by omega)]
    by_cases h1 : P = 64 * t + a
    · rw [if_pos h1, if_neg (by omega), if_pos (by omega), if_pos (by omega)]
    · rw [if_neg h1]
      by_cases h2 : P = 64 * f + a
      · rw [if_pos h2, if_pos (by omega), if_neg (by omega), if_pos (by omega)]
      · rw [if_neg h2]
        by_cases h3 : a = P % 64
        · rw [if_pos h3, if_neg (by omega), if_neg (by omega), Int.add_zero]
        · rw [if_neg h3, Int.add_zero]
  · rw [if_neg h, if_neg (show ¬ P = 64 * t + a by omega), if_neg (show ¬ P = 64 * f + a by omega)]
    by_cases h1 : P = 16384 + (256 * t + f)
    · rw [if_pos h1, if_neg (by omega), if_neg (by omega), if_pos (by omega)]
    · rw [if_neg h1]
      by_cases h2 : P = 16384 + (256 * f + t)
      · rw [if_pos h2, if_pos (by omega)]
      · rw [if_neg h2, if_neg (by omega), if_neg (by omega), Int.add_zero]
theorem NR.eqv {S : hS} {ad : Nat → Option Nat} {x m : Nat} {ks : List Nat} {nt nt' : Nat → Int} (h : NR S ad x m ks nt) (e : ∀ P, nt' P = nt P) : NR S ad x m ks nt' := by
  rw [show nt' = nt from funext e]; exact h
/-- the legs, as the class has read and found them -/
def LG (S : hS) (ls : List Leg) : Prop := ∀ (k : Nat) (l : Leg), ls[k]? = some l → S.2.2.2.2.1 5 (3 * k) = nI l.f ∧ S.2.2.2.2.1 5 (3 * k + 1) = nI l.t ∧ S.2.2.2.2.1 5 (3 * k + 2) = nI l.a ∧ S.2.2.2.2.2.1 6 k = lI (l.v : Int)
theorem h_addLeg {S0 S : hS} {z : Z} {g0 g : hG} {x k : Nat} {i : Ins} {ks ws : List Nat} {l : Leg} (hX : okX z) (hfix : hE hs_fix S0.1) (hM : LG S0 i.legs) (hok : ∀ l ∈ i.legs, okL z l) (hi4 : i.legs.length ≤ 4) (hw : i.who < 256) (h : PG S0 S z g0 g x i (i.legs.take k) ws) (hN : NR S g.ad x i.legs.length ks (fun P => netL z.fc P (i.legs.take k))) (hkl : ks.length ≤ 4 * k) (hks : ∀ P, P ∈ ks ↔ P ∈ (i.legs.take k).flatMap (legP z.fc)) (hl : i.legs[k]? = some l) (hlen : S.1.length + 6 < am_M) : ∃ S' g' ks' ws', h_De_addLeg x (nI k) S = some S' ∧ PG S0 S' z g0 g' x i (i.legs.take (k + 1)) ws' ∧ NR S' g'.ad x i.legs.length ks' (fun P => netL z.fc P (i.legs.take (k + 1))) ∧ ks'.length ≤ 4 * (k + 1) ∧ (∀ P, P ∈ ks' ↔ P ∈ (i.legs.take (k + 1)).flatMap (legP z.fc)) ∧ S'.1.length ≤ S.1.length + 6 := by
  have hm := hX.mem
  have hs := hX.ast
  have hk := get_lt' hl
  have hL := hok l (List.mem_of_getElem? hl)
  have l1 := hL.f
  have l2 := hL.t
  have l3 := hL.a
  obtain ⟨m1, m2, m3, m4⟩ := hM k l hl
  rw [← h.bf.a 5 (fix_lt hfix (by decide))] at m1 m2 m3
  rw [← h.bf.b 6 (fix_lt hfix (by decide))] at m4
  have htl : (i.legs.take k).length = k := by rw [List.length_take]; omega
  obtain ⟨S1, ws', a1, a2, a3⟩ := h_await h hw (by omega) hi4 (l := l) (by omega) (fun l' hl' => by
    have := (hok l' (List.mem_of_mem_take hl')).f
    omega)
  rw [← take_snoc hl] at a2
  have n1 : NR S1 g.ad x i.legs.length ks (fun P => netL z.fc P (i.legs.take k)) := ⟨(a3.er _ (by simp) _).trans hN.rc, by rw [a3.sh]; exact hN.kc, (a3.er _ (by simp) _).trans hN.rd, by rw [a3.sh]; exact hN.kd, (a3.ei _ (by simp) _).trans hN.sz, hN.nd, fun j P hj => by
    obtain ⟨y, r1, r2, r3⟩ := hN.row j P hj
    exact ⟨y, (a3.eq _ (by simp) _).trans r1, r2, (a3.eb _ (by simp) _).trans r3⟩, hN.out⟩
  have s1 : S1.1.length = S.1.length := by rw [a3.sh]
  -- from
  obtain ⟨y1, T1, g1, b1, b2, b3, b4⟩ := h_account a2.b hX l1 l3 (by omega)
  obtain ⟨S2, c1, c2, c3, c4⟩ := h_leg1 a2 n1 rfl hi4 (by omega) b2 b3 (-(l.v : Int))
  have k1 := len_addK ks (64 * l.f + l.a)
  have s2 : S2.1.length = T1.1.length := by rw [c4]
  -- to
  obtain ⟨y2, T2, g2, d1, d2, d3, d4⟩ := h_account c2.b hX l2 l3 (by omega)
  obtain ⟨S3, e1, e2, e3, e4⟩ := h_leg1 c2 c3 rfl hi4 (by omega) d2 d3 (l.v : Int)
  have k2 := len_addK (addK ks (64 * l.f + l.a)) (64 * l.t + l.a)
  have s3 : S3.1.length = T2.1.length := by rw [e4]
  have hun : h_De_addLeg x (nI k) S = (if ¬ (nI l.a : Int32) = (S3.2.1 404 10) then (some S3) else ((h_Bo_room (nI l.f) (nI l.t) S3).bind fun q69 => ((h_In_addToNet x q69.1 (lI (-(l.v : Int))) q69.2).bind fun q80 => ((h_Bo_room (nI l.t) (nI l.f) q80).bind fun q91 => ((h_In_addToNet x q91.1 (lI (l.v : Int)) q91.2).bind fun q102 => (some q102)))))) := by
    unfold h_De_addLeg
    have i1 : nI k * 3 = nI (3 * k) := by rw [Nat.mul_comm]; exact nI_mul k 3
    have i2 : nI k * 3 + 1 = nI (3 * k + 1) := by rw [i1]; exact nI_add' _ 1
    have i3 : nI k * 3 + 2 = nI (3 * k + 2) := by rw [i1]; exact nI_add' _ 2
    rw [i2, i3, i1, ix_N (by omega) (by omega), Option.bind_some, ix_N (by omega) (by omega), Option.bind_some, ix_N (by omega) (by omega), Option.bind_some, ix_N (by omega) (by omega), Option.bind_some, m1, m2, m3, m4, a1, Option.bind_some, b1, Option.bind_some, lI_neg, c1, Option.bind_some, d1, Option.bind_some, e1, Option.bind_some]
  rw [hun, e2.b.fir]
  have hmem : ∀ P, P ∈ (i.legs.take (k + 1)).flatMap (legP z.fc) ↔ P ∈ (i.legs.take k).flatMap (legP z.fc) ∨ P ∈ legP z.fc l := fun P => by
    rw [take_snoc hl, List.flatMap_append, List.mem_append, List.flatMap_cons, List.flatMap_nil, List.append_nil]
  have hnet : ∀ P, netL z.fc P (i.legs.take (k + 1)) = netL z.fc P (i.legs.take k) + legN z.fc P l := fun P => by rw [take_snoc hl, netL_snoc]
  by_cases c : some l.a = z.fc
  · rw [if_neg (fun q => q ((oI_eq (fun b hb => by have := hX.fc b hb; omega) (by omega)).mpr c))]
    obtain ⟨y3, T3, g3, f1, f2, f3, f4⟩ := h_room e2.b hX l1 l2 (by omega)
    obtain ⟨S4, p1, p2, p3, p4⟩ := h_leg1 e2 e3 rfl hi4 (by omega) f2 f3 (-(l.v : Int))
    have k3 := len_addK (addK (addK ks (64 * l.f + l.a)) (64 * l.t + l.a)) (16384 + (256 * l.f + l.t))
    have s4 : S4.1.length = T3.1.length := by rw [p4]
    obtain ⟨y4, T4, g4, q1, q2, q3, q4⟩ := h_room p2.b hX l2 l1 (by omega)
    obtain ⟨S5, r1, r2, r3, r4⟩ := h_leg1 p2 p3 rfl hi4 (by omega) q2 q3 (l.v : Int)
    have k4 := len_addK (addK (addK (addK ks (64 * l.f + l.a)) (64 * l.t + l.a)) (16384 + (256 * l.f + l.t))) (16384 + (256 * l.t + l.f))
    have s5 : S5.1.length = T4.1.length := by rw [r4]
    refine ⟨S5, g4, _, ws', ?_, r2, r3.eqv (fun P => ?_), by omega, fun P => ?_, by omega⟩
    · rw [f1, Option.bind_some, p1, Option.bind_some, q1, Option.bind_some, r1, Option.bind_some]
    · rw [hnet]
      exact (leg_netF (by omega) (by omega) (by omega) hL.ft c (fun P => netL z.fc P (i.legs.take k)) _ _ _ _ (fun _ => rfl) (fun _ => rfl) (fun _ => rfl) (fun _ => rfl) P).symm
    · rw [hmem, mem_addK, mem_addK, mem_addK, mem_addK, hks]
      unfold legP
      rw [if_pos c]
      simp only [List.mem_append, List.mem_cons, List.not_mem_nil, or_false, or_assoc]
  · rw [if_pos (fun q => c ((oI_eq (fun b hb => by have := hX.fc b hb; omega) (by omega)).mp q))]
    refine ⟨S3, g2, _, ws', rfl, e2, e3.eqv (fun P => ?_), by omega, fun P => ?_, by omega⟩
    · rw [hnet]
      exact (leg_net (by omega) (by omega) (by omega) hL.ft c (fun P => netL z.fc P (i.legs.take k)) P).symm
    · rw [hmem, mem_addK, mem_addK, hks]
      unfold legP
      rw [if_neg c]
      simp only [List.mem_append, List.mem_cons, List.not_mem_nil, or_false, or_assoc]
theorem h_legs {S0 : hS} {z : Z} {g0 : hG} {x : Nat} {i : Ins} (hX : okX z) (hfix : hE hs_fix S0.1) (hM : LG S0 i.legs) (h812 : S0.2.1 812 2 = nI i.legs.length) (hok : ∀ l ∈ i.legs, okL z l) (hi4 : i.legs.length ≤ 4) (hw : i.who < 256) : ∀ (d fu k : Nat) (S : hS) (g : hG) (ks ws : List Nat), i.legs.length - k = d → d < fu → k ≤ i.legs.length → PG S0 S z g0 g x i (i.legs.take k) ws → NR S g.ad x i.legs.length ks (fun P => netL z.fc P (i.legs.take k)) → ks.length ≤ 4 * k → (∀ P, P ∈ ks ↔ P ∈ (i.legs.take k).flatMap (legP z.fc)) → S.1.length + 6 * d < am_M → ∃ S' g' ks' ws', hl_De_pay_15 fu x (nI k) S = some S' ∧ PG S0 S' z g0 g' x i i.legs ws' ∧ NR S' g'.ad x i.legs.length ks' (fun P => netL z.fc P i.legs) ∧ ks'.length ≤ 4 * i.legs.length ∧ (∀ P, P ∈ ks' ↔ P ∈ i.legs.flatMap (legP z.fc)) ∧ S'.1.length ≤ S.1.length + 6 * d := by
  intro d
  induction d with
  | zero =>
    intro fu k S g ks ws hd hf hk h hN h1 h2 h3
    obtain ⟨fu, rfl⟩ : ∃ f, fu = f + 1 := ⟨fu - 1, by omega⟩
    have e8 := (h.bf.i 812 2 (by decide) (fix_lt hfix (by decide))).trans h812
    have et : i.legs.take k = i.legs := List.take_of_length_le (by omega)
    rw [et] at h h2
    have hN' := hN.eqv (nt' := fun P => netL z.fc P i.legs) (fun P => by rw [et])
    refine ⟨S, g, ks, ws, ?_, h, hN', by omega, h2, by omega⟩
    unfold hl_De_pay_15
    rw [e8, if_pos (nI_le0 (by omega) (by omega) (by omega))]
  | succ d ih =>
    intro fu k S g ks ws hd hf hk h hN h1 h2 h3
    obtain ⟨fu, rfl⟩ : ∃ f, fu = f + 1 := ⟨fu - 1, by omega⟩
    have e8 := (h.bf.i 812 2 (by decide) (fix_lt hfix (by decide))).trans h812
    obtain ⟨l, hl⟩ := get_lt (ks := i.legs) (j := k) (by omega)
    obtain ⟨S1, g1, ks1, ws1, a1, a2, a3, a4, a5, a6⟩ := h_addLeg hX hfix hM hok hi4 hw h hN h1 h2 hl (by omega)
    obtain ⟨S2, g2, ks2, ws2, b1, b2, b3, b4, b5, b6⟩ := ih fu (k + 1) S1 g1 ks1 ws1 (by omega) (by omega) (by omega) a2 a3 a4 a5 (by omega)
    refine ⟨S2, g2, ks2, ws2, ?_, b2, b3, b4, b5, by omega⟩
    unfold hl_De_pay_15
    rw [e8, if_neg (nI_ngt (by omega) (by omega) (by omega)), a1, Option.bind_some, nI_add1, b1]
