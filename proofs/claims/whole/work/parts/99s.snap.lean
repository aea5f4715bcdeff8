/-! The snapshot, on both sides. -/
def one0 (v : Int) : Nat := if v = 0 then 0 else 1
def amtF (z : Z) (P : Nat) : Nat := one0 (z.pos P) + one0 (z.pl P)
theorem sumN_add (f : Nat → Nat) (k : Nat) : ∀ j, sumN f (k + j) = sumN f k + sumN (fun a => f (k + a)) j := by
  intro j
  induction j with
  | zero => rfl
  | succ j ih =>
    show sumN f (k + j) + f (k + j) = sumN f k + (sumN (fun a => f (k + a)) j + f (k + j))
    rw [ih]; omega
theorem sumN_blk (f : Nat → Nat) : ∀ m, sumN f (64 * m) = sumN (fun p => sumN (fun a => f (64 * p + a)) 64) m := by
  intro m
  induction m with
  | zero => rfl
  | succ m ih =>
    rw [show 64 * (m + 1) = 64 * m + 64 by omega, sumN_add, ih]
    rfl
theorem sumN_tail {f : Nat → Nat} {n : Nat} : ∀ {m : Nat}, n ≤ m → (∀ k, n ≤ k → k < m → f k = 0) → sumN f m = sumN f n := by
  intro m
  induction m with
  | zero => intro h _; rw [show n = 0 by omega]
  | succ m ih =>
    intro h h0
    by_cases e : n = m + 1
    · rw [e]
    · show sumN f m + f m = _
      rw [ih (by omega) (fun k a b => h0 k a (by omega)), h0 m (by omega) (by omega), Nat.add_zero]
theorem amt_all {z : Z} (hX : okX z) (hout : ∀ P, P < 16384 → (z.mem.length ≤ P / 64 ∨ z.ast.length ≤ P % 64) → z.pos P = 0 ∧ z.pl P = 0) : sumN (amtF z) 16384 = sumN (fun p => sumN (fun a => amtF z (64 * p + a)) z.ast.length) z.mem.length := by
  have hm := hX.mem
  have hs := hX.ast
  have h0 : ∀ P, P < 16384 → (z.mem.length ≤ P / 64 ∨ z.ast.length ≤ P % 64) → amtF z P = 0 := fun P h1 h2 => by
    obtain ⟨a, b⟩ := hout P h1 h2
    unfold amtF one0
    rw [a, b]; rfl
  rw [show (16384 : Nat) = 64 * 256 from rfl, sumN_blk, sumN_tail (n := z.mem.length) (by omega) (fun p h1 h2 => sumN_0 fun a ha => h0 _ (by omega) (by omega))]
  refine sumN_cong fun p hp => ?_
  exact sumN_tail (by omega) (fun a h1 h2 => h0 _ (by omega) (by omega))
theorem sumN_bd {f : Nat → Nat} {b : Nat} (h : ∀ k, f k ≤ b) : ∀ n, sumN f n ≤ b * n := by
  intro n
  induction n with
  | zero => exact Nat.zero_le _
  | succ n ih =>
    show sumN f n + f n ≤ _
    have := h n
    rw [Nat.mul_succ]; omega
theorem amtF_le (z : Z) (P : Nat) : amtF z P ≤ 2 := by
  unfold amtF one0
  split <;> split <;> omega
theorem oz (n : Nat) : nI n = Int32.ofInt (n : Int) := Int32.ofInt_eq_ofNat.symm
theorem d_snap28 {s : mS} {z : Z} (hM : MB s z) (hp : ∀ P, inL (z.pos P)) (hl : ∀ P, inL (z.pl P)) (c : Int) : ∀ (d fu k : Nat), 16384 - k = d → d < fu → k ≤ 16384 → l_Mo_snapshot_28 fu (Int32.ofInt (c + 12 * (sumN (amtF z) k : Nat))) (nI k) s = some (Int32.ofInt (c + 12 * (sumN (amtF z) 16384 : Nat))) := by
  intro d
  induction d with
  | zero =>
    intro fu k hd hf hk
    obtain ⟨fu, rfl⟩ : ∃ f, fu = f + 1 := ⟨fu - 1, by omega⟩
    unfold l_Mo_snapshot_28
    rw [if_pos (show (16384 : Int32) ≤ nI k from nI_le0 (a := 16384) (by omega) (by omega) (by omega)), show k = 16384 by omega]
  | succ d ih =>
    intro fu k hd hf hk
    obtain ⟨fu, rfl⟩ : ∃ f, fu = f + 1 := ⟨fu - 1, by omega⟩
    have IH := ih fu (k + 1) (by omega) (by omega) (by omega)
    have e5 : (if lg_cmp (s.2.2.2 31 k) 0 = 0 then some (0 : Int32) else some 12) = some (Int32.ofInt (12 * (one0 (z.pos k) : Nat))) := by
      rw [hM.pos k (by omega)]
      by_cases h : z.pos k = 0
      · rw [if_pos ((cmp0_eq (hp k)).mpr h)]; unfold one0; rw [if_pos h]; rfl
      · rw [if_neg (fun q => h ((cmp0_eq (hp k)).mp q))]; unfold one0; rw [if_neg h]; rfl
    have e9 : (if lg_cmp (s.2.2.2 32 k) 0 = 0 then some (0 : Int32) else some 12) = some (Int32.ofInt (12 * (one0 (z.pl k) : Nat))) := by
      rw [hM.pl k (by omega)]
      by_cases h : z.pl k = 0
      · rw [if_pos ((cmp0_eq (hl k)).mpr h)]; unfold one0; rw [if_pos h]; rfl
      · rw [if_neg (fun q => h ((cmp0_eq (hl k)).mp q))]; unfold one0; rw [if_neg h]; rfl
    unfold l_Mo_snapshot_28
    rw [if_neg (show ¬ (16384 : Int32) ≤ nI k from nI_ngt (a := 16384) (by omega) (by omega) (by omega)), ix_N (by omega) (by omega), Option.bind_some, e5, Option.bind_some, e9, Option.bind_some, nI_add1, i32_add, i32_add]
    have e : c + 12 * ((sumN (amtF z) k : Nat) : Int) + (12 * (one0 (z.pos k) : Nat) + 12 * (one0 (z.pl k) : Nat)) = c + 12 * ((sumN (amtF z) (k + 1) : Nat) : Int) := by
      show _ = c + 12 * ((sumN (amtF z) k + (one0 (z.pos k) + one0 (z.pl k)) : Nat) : Int)
      omega
    rw [e]
    exact IH
def snapN (z : Z) : Int := 20 + 4 * (z.mem.length : Int) + 14 * (z.ast.length : Int) + 12 * z.lims + 12 * (sumN (amtF z) 16384 : Nat)
section SNH
variable {S : hS} {z : Z} {g : hG}
theorem h_snap17 (h : HB S z g) (hX : okX z) (hfc : ∀ a, z.fc = some a → z.mny a = true) (hmp : ∀ P, P < 16384 → z.mny (P % 64) = true → z.pl P = 0) (hp : ∀ P, inL (z.pos P)) (hl : ∀ P, inL (z.pl P)) {p : Nat} (hpm : p < z.mem.length) (c : Int) : ∀ (d fu a : Nat), z.ast.length - a = d → d < fu → a ≤ z.ast.length → hl_Bo_snapshotBytes_17 fu (Int32.ofInt (c + (sumN (fun a => amtF z (64 * p + a)) a : Nat))) (nI p) (nI a) S = some (Int32.ofInt (c + (sumN (fun a => amtF z (64 * p + a)) z.ast.length : Nat))) := by
  have hs := hX.ast
  intro d
  induction d with
  | zero =>
    intro fu a hd hf ha
    obtain ⟨fu, rfl⟩ : ∃ f, fu = f + 1 := ⟨fu - 1, by omega⟩
    unfold hl_Bo_snapshotBytes_17
    rw [h.asn, if_pos (nI_le0 (by omega) (by omega) (by omega)), show a = z.ast.length by omega]
  | succ d ih =>
    intro fu a hd hf ha
    obtain ⟨fu, rfl⟩ : ∃ f, fu = f + 1 := ⟨fu - 1, by omega⟩
    have IH := ih fu (a + 1) (by omega) (by omega) (by omega)
    have e5 : (if lg_cmp (lI (z.pos (64 * p + a))) 0 = 0 then some (0 : Int32) else some 1) = some (Int32.ofInt (one0 (z.pos (64 * p + a)) : Nat)) := by
      by_cases h : z.pos (64 * p + a) = 0
      · rw [if_pos ((cmp0_eq (hp _)).mpr h)]; unfold one0; rw [if_pos h]; rfl
      · rw [if_neg (fun q => h ((cmp0_eq (hp _)).mp q))]; unfold one0; rw [if_neg h]; rfl
    have e9 : (if lg_cmp (lI (z.pl (64 * p + a))) 0 = 0 then some (0 : Int32) else some 1) = some (Int32.ofInt (one0 (z.pl (64 * p + a)) : Nat)) := by
      by_cases h : z.pl (64 * p + a) = 0
      · rw [if_pos ((cmp0_eq (hl _)).mpr h)]; unfold one0; rw [if_pos h]; rfl
      · rw [if_neg (fun q => h ((cmp0_eq (hl _)).mp q))]; unfold one0; rw [if_neg h]; rfl
    unfold hl_Bo_snapshotBytes_17
    rw [h.asn, if_neg (nI_ngt (by omega) (by omega) (by omega)), h_level h hX hpm (by omega), Option.bind_some, e5, Option.bind_some, h_pledged h hX hfc hmp hpm (by omega), Option.bind_some, e9, Option.bind_some, nI_add1, i32_add, i32_add]
    have e : c + ((sumN (fun a => amtF z (64 * p + a)) a : Nat) : Int) + (one0 (z.pos (64 * p + a)) : Nat) + (one0 (z.pl (64 * p + a)) : Nat) = c + ((sumN (fun a => amtF z (64 * p + a)) (a + 1) : Nat) : Int) := by
      show _ = c + ((sumN (fun a => amtF z (64 * p + a)) a + (one0 (z.pos (64 * p + a)) + one0 (z.pl (64 * p + a))) : Nat) : Int)
      omega
    rw [e]
    exact IH
theorem h_snap7 (h : HB S z g) (hX : okX z) (hfc : ∀ a, z.fc = some a → z.mny a = true) (hmp : ∀ P, P < 16384 → z.mny (P % 64) = true → z.pl P = 0) (hp : ∀ P, inL (z.pos P)) (hl : ∀ P, inL (z.pl P)) (c : Int) : ∀ (d fu k : Nat), z.mem.length - k = d → d < fu → k ≤ z.mem.length → hl_Bo_snapshotBytes_7 fu (Int32.ofInt (c + (sumN (fun p => sumN (fun a => amtF z (64 * p + a)) z.ast.length) k : Nat))) (nI k) S = some (Int32.ofInt (c + (sumN (fun p => sumN (fun a => amtF z (64 * p + a)) z.ast.length) z.mem.length : Nat))) := by
  have hs := hX.ast
  have hm := hX.mem
  intro d
  induction d with
  | zero =>
    intro fu k hd hf hk
    obtain ⟨fu, rfl⟩ : ∃ f, fu = f + 1 := ⟨fu - 1, by omega⟩
    unfold hl_Bo_snapshotBytes_7
    rw [h.mem, if_pos (nI_le0 (by omega) (by omega) (by omega)), show k = z.mem.length by omega]
  | succ d ih =>
    intro fu k hd hf hk
    obtain ⟨fu, rfl⟩ : ∃ f, fu = f + 1 := ⟨fu - 1, by omega⟩
    have IH := ih fu (k + 1) (by omega) (by omega) (by omega)
    have h1 := h_snap17 h hX hfc hmp hp hl (p := k) (by omega) (c + (sumN (fun p => sumN (fun a => amtF z (64 * p + a)) z.ast.length) k : Nat)) _ 100000 0 rfl (by omega) (by omega)
    have h2 : hl_Bo_snapshotBytes_17 100000 (Int32.ofInt (c + (sumN (fun p => sumN (fun a => amtF z (64 * p + a)) z.ast.length) k : Nat))) (nI k) 0 S = some (Int32.ofInt (c + ((sumN (fun p => sumN (fun a => amtF z (64 * p + a)) z.ast.length) (k + 1) : Nat) : Int))) := by
      have e : c + ((sumN (fun p => sumN (fun a => amtF z (64 * p + a)) z.ast.length) k : Nat) : Int) + ((sumN (fun a => amtF z (64 * k + a)) 0 : Nat) : Int) = c + ((sumN (fun p => sumN (fun a => amtF z (64 * p + a)) z.ast.length) k : Nat) : Int) := by
        show _ + ((0 : Nat) : Int) = _
        omega
      rw [e] at h1
      refine h1.trans ?_
      congr 2
      show _ = c + ((sumN (fun p => sumN (fun a => amtF z (64 * p + a)) z.ast.length) k + sumN (fun a => amtF z (64 * k + a)) z.ast.length : Nat) : Int)
      omega
    unfold hl_Bo_snapshotBytes_7
    rw [h.mem, if_neg (nI_ngt (by omega) (by omega) (by omega)), h2, Option.bind_some, nI_add1]
    exact IH
theorem i32_mul (a b : Int) : Int32.ofInt a * Int32.ofInt b = Int32.ofInt (a * b) := (Int32.ofInt_mul a b).symm
theorem h_snapB (h : HB S z g) (hX : okX z) (hfc : ∀ a, z.fc = some a → z.mny a = true) (hmp : ∀ P, P < 16384 → z.mny (P % 64) = true → z.pl P = 0) (hp : ∀ P, inL (z.pos P)) (hl : ∀ P, inL (z.pl P)) (hout : ∀ P, P < 16384 → (z.mem.length ≤ P / 64 ∨ z.ast.length ≤ P % 64) → z.pos P = 0 ∧ z.pl P = 0) : h_Bo_snapshotBytes S = some (Int32.ofInt (snapN z)) := by
  have hm := hX.mem
  have h1 := h_snap7 h hX hfc hmp hp hl z.lims _ 100000 0 rfl (by omega) (by omega)
  have e0 : z.lims + ((sumN (fun p => sumN (fun a => amtF z (64 * p + a)) z.ast.length) 0 : Nat) : Int) = z.lims := by
    show _ + ((0 : Nat) : Int) = _
    omega
  rw [e0, ← amt_all hX hout] at h1
  have h2 : hl_Bo_snapshotBytes_7 100000 (S.2.1 405 10) 0 S = some (Int32.ofInt (z.lims + ((sumN (amtF z) 16384 : Nat) : Int))) := by rw [h.lims]; exact h1
  unfold h_Bo_snapshotBytes
  rw [h2, Option.bind_some, h.mem, h.asn]
  have e20 : (20 : Int32) = Int32.ofInt 20 := rfl
  have e4 : (4 : Int32) = Int32.ofInt 4 := rfl
  have e14 : (14 : Int32) = Int32.ofInt 14 := rfl
  have e12 : (12 : Int32) = Int32.ofInt 12 := rfl
  rw [e20, e4, e14, e12, oz, oz, i32_mul, i32_mul, i32_mul, i32_add, i32_add, i32_add]
  congr 2
  unfold snapN
  omega
end SNH
theorem d_snapB {s : mS} {z : Z} (hM : MB s z) (hp : ∀ P, inL (z.pos P)) (hl : ∀ P, inL (z.pl P)) : l_Mo_snapshot_28 100000 (((20 + (4 * (s.1 10))) + (14 * (s.1 15))) + (12 * (s.1 25))) 0 s = some (Int32.ofInt (snapN z)) := by
  have h1 := d_snap28 hM hp hl (20 + 4 * (z.mem.length : Int) + 14 * (z.ast.length : Int) + 12 * z.lims) _ 100000 0 rfl (by omega) (by omega)
  have e20 : (20 : Int32) = Int32.ofInt 20 := rfl
  have e4 : (4 : Int32) = Int32.ofInt 4 := rfl
  have e14 : (14 : Int32) = Int32.ofInt 14 := rfl
  have e12 : (12 : Int32) = Int32.ofInt 12 := rfl
  rw [hM.mem, hM.asn, hM.lims, e20, e4, e14, e12, oz, oz, i32_mul, i32_mul, i32_mul, i32_add, i32_add, i32_add]
  have e0 : 20 + 4 * (z.mem.length : Int) + 14 * (z.ast.length : Int) + 12 * z.lims + 12 * ((sumN (amtF z) 0 : Nat) : Int) = 20 + 4 * (z.mem.length : Int) + 14 * (z.ast.length : Int) + 12 * z.lims := by
    show _ + 12 * ((0 : Nat) : Int) = _
    omega
  rw [e0] at h1
  exact h1
/-- the blocks of the snapshot, on both sides -/
theorem snap_loop (q v : Int32) (hq0 : q.toInt < 2147483646) (hv : ((v + 500) - 1) / 500 = q) : ∀ (fu : Nat) (b : Int32) (S : hS) (s : mS), rDisk S s → (q.toInt + 1 - b.toInt).toNat < fu → ∃ r S' s', hl_Di_writeSnapshot_9 fu (q + 1) b S = some (r, S') ∧ l_Mo_snapshot_81 fu v b s = some (r, s') ∧ rDisk S' s' ∧ hAg kDi S S' ∧ mAg kMd s s' ∧ ((r = 1 ∧ s'.1 7 = s.1 7 ∧ s'.1 8 = s.1 8 ∧ s'.1 57 = s.1 57 ∧ s'.1 60 = 0) ∨ (r = 0 ∧ s'.1 7 = 0 ∧ s'.1 8 = 0 ∧ s'.1 57 = 0 ∧ s'.1 60 = s.1 60)) := by
  have hq1 : (q + 1).toInt = q.toInt + 1 := i32_add1 (by omega)
  intro fu
  induction fu with
  | zero => intro b S s _ hm; omega
  | succ fu ih =>
    intro b S s h hm
    unfold hl_Di_writeSnapshot_9 l_Mo_snapshot_81
    rw [hv]
    by_cases hb : q < b
    · have hb2 : q + 1 ≤ b := by
        rw [Int32.le_iff_toInt_le, hq1]
        rw [Int32.lt_iff_toInt_lt] at hb
        omega
      rw [if_pos hb, if_pos hb2]
      exact ⟨1, _, _, rfl, rfl, ⟨h.1, h.2.1, h.2.2.1, rfl⟩, hAg.rf.put (Or.inr (Or.inr (Or.inr rfl))), mAg.rf.put (Or.inr (Or.inr (Or.inr (Or.inl rfl)))), Or.inl ⟨rfl, rfl, rfl, rfl, rfl⟩⟩
    · have hb1 : b.toInt ≤ q.toInt := by
        rw [Int32.lt_iff_toInt_lt] at hb
        omega
      have hb2 : ¬ q + 1 ≤ b := fun c => by
        rw [Int32.le_iff_toInt_le, hq1] at c
        omega
      rw [if_neg hb, if_neg hb2]
      rcases write_both S s h with ⟨S', s', e1, e2, r1, g1, g2, q7, q8, q57, q60⟩ | ⟨S', s', e1, e2, r1, g1, g2, q7, q8, q57, q60⟩
      · rw [e1, e2]
        obtain ⟨r, S'', s'', z1, z2, z3, z4, z5, z6⟩ := ih (b + 1) S' s' r1 (by rw [i32_add1 (by omega)]; omega)
        refine ⟨r, S'', s'', bnd1.trans z1, bnd1.trans z2, z3, g1.tr z4, g2.tr z5, ?_⟩
        rcases z6 with ⟨y1, y2, y3, y4, y5⟩ | ⟨y1, y2, y3, y4, y5⟩
        · exact Or.inl ⟨y1, y2.trans q7, y3.trans q8, y4.trans q57, y5⟩
        · exact Or.inr ⟨y1, y2, y3, y4, y5.trans q60⟩
      · rw [e1, e2]
        exact ⟨0, S', s', bnd0, bnd0, r1, g1, g2, Or.inr ⟨rfl, q7, q8, q57, q60⟩⟩
theorem i32_toInt {x : Int} (h1 : -2147483648 ≤ x) (h2 : x < 2147483648) : (Int32.ofInt x).toInt = x := Int32.toInt_ofInt_of_le (by omega) (by omega)
theorem snap_both {S : hS} {s : mS} {z : Z} (h : rDisk S s) (hb : -10000 ≤ snapN z ∧ snapN z ≤ 1000000) : ∃ r S' s', h_Di_writeSnapshot (Int32.ofInt (snapN z)) S = some (r, S') ∧ l_Mo_snapshot_81 100000 (Int32.ofInt (snapN z)) 0 s = some (r, s') ∧ rDisk S' s' ∧ hAg kDi S S' ∧ mAg kMd s s' ∧ ((r = 1 ∧ s'.1 7 = s.1 7 ∧ s'.1 8 = s.1 8 ∧ s'.1 57 = s.1 57 ∧ s'.1 60 = 0) ∨ (r = 0 ∧ s'.1 7 = 0 ∧ s'.1 8 = 0 ∧ s'.1 57 = 0 ∧ s'.1 60 = s.1 60)) := by
  have e1 : Int32.ofInt (snapN z) + 500 - 1 = Int32.ofInt (snapN z + 499) := by
    rw [show (500 : Int32) = Int32.ofInt 500 from rfl, show (1 : Int32) = Int32.ofInt 1 from rfl, i32_add, i32_sub]
    congr 1
    omega
  have e2 : (Int32.ofInt (snapN z + 499) / 500).toInt = (snapN z + 499).tdiv 500 := by
    rw [Int32.toInt_div_of_ne_right _ _ (by decide), i32_toInt (by omega) (by omega)]
    rfl
  have hb3 : -1000000 ≤ (snapN z + 499).tdiv 500 ∧ (snapN z + 499).tdiv 500 ≤ 50000 := by
    by_cases h0 : 0 ≤ snapN z + 499
    · rw [Int.tdiv_eq_ediv_of_nonneg h0]; omega
    · have e : (snapN z + 499).tdiv 500 = -((-(snapN z + 499)).tdiv 500) := by rw [Int.neg_tdiv, Int.neg_neg]
      rw [e, Int.tdiv_eq_ediv_of_nonneg (by omega)]
      omega
  have key := snap_loop ((Int32.ofInt (snapN z) + 500 - 1) / 500) (Int32.ofInt (snapN z)) (by rw [e1, e2]; omega) rfl 100000 0 S s h (by
    rw [e1, e2, show (0 : Int32).toInt = 0 from by decide]
    omega)
  obtain ⟨r, S', s', a1, a2, a3, a4, a5, a6⟩ := key
  refine ⟨r, S', s', ?_, a2, a3, a4, a5, a6⟩
  unfold h_Di_writeSnapshot h_Di_blocksOf
  rw [Option.bind_some]
  exact a1
