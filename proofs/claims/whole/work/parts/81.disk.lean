/-! Power and blocks, on both sides. -/
/-- only int fields with these keys differ -/
def hAg (P : Nat → Prop) (S S' : hS) : Prop := S'.1 = S.1 ∧ (∀ k a, ¬ P k → S'.2.1 k a = S.2.1 k a) ∧ S'.2.2 = S.2.2
def mAg (P : Nat → Prop) (s s' : mS) : Prop := (∀ k, ¬ P k → s'.1 k = s.1 k) ∧ s'.2 = s.2
theorem hAg.rf {P : Nat → Prop} {S : hS} : hAg P S S := ⟨rfl, fun _ _ _ => rfl, rfl⟩
theorem mAg.rf {P : Nat → Prop} {s : mS} : mAg P s s := ⟨fun _ _ => rfl, rfl⟩
theorem hAg.tr {P : Nat → Prop} {S S1 S2 : hS} (h1 : hAg P S S1) (h2 : hAg P S1 S2) : hAg P S S2 := ⟨h2.1.trans h1.1, fun k a h => (h2.2.1 k a h).trans (h1.2.1 k a h), h2.2.2.trans h1.2.2⟩
theorem mAg.tr {P : Nat → Prop} {s s1 s2 : mS} (h1 : mAg P s s1) (h2 : mAg P s1 s2) : mAg P s s2 := ⟨fun k h => (h2.1 k h).trans (h1.1 k h), h2.2.trans h1.2⟩
theorem hAg.put {P : Nat → Prop} {S S' : hS} {k a : Nat} {v : Int32} (h : hAg P S S') (hk : P k) : hAg P S (hpI S' k a v) := ⟨h.1, fun k' a' hk' => (up2_ne (fun q => hk' (by rw [q.1]; exact hk))).trans (h.2.1 k' a' hk'), h.2.2⟩
theorem mAg.put {P : Nat → Prop} {s s' : mS} {k : Nat} {v : Int32} (h : mAg P s s') (hk : P k) : mAg P s (mI s' k v) := ⟨fun k' hk' => (show va_up s'.1 k v k' = s.1 k' from (if_neg (fun q => hk' (by rw [q]; exact hk))).trans (h.1 k' hk')), h.2⟩
theorem bnd1 {α β : Type} {x : α} {f g : Int32 × α → Option β} : ((some ((1 : Int32), x)).bind fun q => if ¬ (q.1 : Int32) = 0 then f q else g q) = f (1, x) := show (if ¬ (1 : Int32) = 0 then f (1, x) else g (1, x)) = f (1, x) from if_pos (by decide)
theorem bnd0 {α β : Type} {x : α} {f g : Int32 × α → Option β} : ((some ((0 : Int32), x)).bind fun q => if ¬ (q.1 : Int32) = 0 then f q else g q) = g (0, x) := show (if ¬ (0 : Int32) = 0 then f (0, x) else g (0, x)) = g (0, x) from if_neg (by decide)
def kDi (k : Nat) : Prop := k = 600 ∨ k = 601 ∨ k = 602 ∨ k = 603
def kMd (k : Nat) : Prop := k = 57 ∨ k = 58 ∨ k = 59 ∨ k = 60 ∨ k = 7 ∨ k = 8
def rDisk (S : hS) (s : mS) : Prop := S.2.1 600 9 = s.1 57 ∧ S.2.1 601 9 = s.1 58 ∧ S.2.1 602 9 = s.1 59 ∧ S.2.1 603 9 = s.1 60
theorem i32_sub0 (x : Int32) : x - 0 = x := by simp
/-- one block: both write it, or the power goes -/
theorem write_both (S : hS) (s : mS) (h : rDisk S s) : (∃ S' s', h_Di_writeBlock S = some (1, S') ∧ d_Mo_write s = some (1, s') ∧ rDisk S' s' ∧ hAg kDi S S' ∧ mAg kMd s s' ∧ s'.1 7 = s.1 7 ∧ s'.1 8 = s.1 8 ∧ s'.1 57 = s.1 57 ∧ s'.1 60 = s.1 60) ∨ (∃ S' s', h_Di_writeBlock S = some (0, S') ∧ d_Mo_write s = some (0, s') ∧ rDisk S' s' ∧ hAg kDi S S' ∧ mAg kMd s s' ∧ s'.1 7 = 0 ∧ s'.1 8 = 0 ∧ s'.1 57 = 0 ∧ s'.1 60 = s.1 60) := by
  obtain ⟨h0, h1, h2, h3⟩ := h
  unfold h_Di_writeBlock d_Mo_write
  rw [h1]
  by_cases hc : s.1 58 = 0
  · right
    rw [if_neg (fun q => q hc), if_neg (fun q => q hc)]
    refine ⟨_, mI (mI (mI (mI s 57 0) 58 (-1)) 7 0) 8 0, rfl, ?_, ⟨rfl, rfl, h2, h3⟩, (hAg.rf.put (Or.inl rfl)).put (Or.inr (Or.inl rfl)), ?_, rfl, rfl, rfl, rfl⟩
    · unfold d_Mo_goesDown d_Mo_silence
      show (if (0 : Int32) = 0 ∨ (0 : Int32) = 1 then some ((0 : Int32), _) else none) = _
      exact if_pos (Or.inl rfl)
    · exact (((mAg.rf.put (Or.inl rfl)).put (Or.inr (Or.inl rfl))).put (Or.inr (Or.inr (Or.inr (Or.inr (Or.inl rfl)))))).put (Or.inr (Or.inr (Or.inr (Or.inr (Or.inr rfl)))))
  · left
    rw [if_pos hc, if_pos hc]
    by_cases hp : s.1 58 ≤ 0
    · rw [if_pos hp, if_pos hp]
      refine ⟨_, _, rfl, rfl, ⟨h0, ?_, ?_, h3⟩, hAg.rf.put (Or.inr (Or.inr (Or.inl rfl))), (mAg.rf.put (Or.inr (Or.inl rfl))).put (Or.inr (Or.inr (Or.inl rfl))), rfl, rfl, rfl, rfl⟩
      · show S.2.1 601 9 = s.1 58 - 0
        rw [i32_sub0]; exact h1
      · show S.2.1 602 9 + 1 = s.1 59 + 1
        rw [h2]
    · rw [if_neg hp, if_neg hp]
      refine ⟨_, _, rfl, rfl, ⟨h0, rfl, ?_, h3⟩, (hAg.rf.put (Or.inr (Or.inl rfl))).put (Or.inr (Or.inr (Or.inl rfl))), (mAg.rf.put (Or.inr (Or.inl rfl))).put (Or.inr (Or.inr (Or.inl rfl))), rfl, rfl, rfl, rfl⟩
      show S.2.1 602 9 + 1 = s.1 59 + 1
      rw [h2]
theorem charge_both (a : Int32) (S : hS) (s : mS) (h : rDisk S s) : ∃ r S' s', h_Ho_charge a S = some (r, S') ∧ d_Mo_charge a s = some (r, s') ∧ rDisk S' s' ∧ hAg kDi S S' ∧ mAg (fun k => k = 58) s s' := by
  unfold h_Ho_charge d_Mo_charge
  by_cases h0 : a < 0
  · rw [if_pos h0, if_pos h0]; exact ⟨_, _, _, rfl, rfl, h, hAg.rf, mAg.rf⟩
  · rw [if_neg h0, if_neg h0]
    by_cases h1 : a ≤ 9999
    · rw [if_pos h1, if_pos h1]; exact ⟨_, _, _, rfl, rfl, ⟨h.1, rfl, h.2.2.1, h.2.2.2⟩, hAg.rf.put (Or.inr (Or.inl rfl)), mAg.rf.put rfl⟩
    · rw [if_neg h1, if_neg h1]; exact ⟨_, _, _, rfl, rfl, h, hAg.rf, mAg.rf⟩
theorem start_both (S : hS) (s : mS) (h : rDisk S s) : ∃ r S' s', h_Ho_start S = some (r, S') ∧ d_Mo_start s = some (r, s') ∧ rDisk S' s' ∧ hAg kDi S S' ∧ mAg kMd s s' ∧ ((s'.1 7 = s.1 7 ∧ s'.1 8 = s.1 8) ∨ (s.1 57 = 0 ∧ s'.1 7 = 0 ∧ s'.1 8 = 0)) := by
  unfold h_Ho_start d_Mo_start
  rw [h.1]
  by_cases h0 : s.1 57 = 0
  · rw [if_pos h0, if_pos h0]
    rcases write_both S s h with ⟨S', s', e1, e2, r1, g1, g2, q7, q8, q57, q60⟩ | ⟨S', s', e1, e2, r1, g1, g2, q7, q8, q57, q60⟩
    · rw [e1, e2]
      refine ⟨1, hpI S' 600 9 1, mI s' 57 1, bnd1, bnd1, ⟨rfl, r1.2.1, r1.2.2.1, r1.2.2.2⟩, g1.put (Or.inl rfl), g2.put (Or.inl rfl), Or.inl ⟨q7, q8⟩⟩
    · rw [e1, e2]
      exact ⟨2, S', s', bnd0, bnd0, r1, g1, g2, Or.inr ⟨h0, q7, q8⟩⟩
  · rw [if_neg h0, if_neg h0]; exact ⟨_, _, _, rfl, rfl, h, hAg.rf, mAg.rf, Or.inl ⟨rfl, rfl⟩⟩
theorem i32_add1 {b : Int32} (h : b.toInt < 2147483647) : (b + 1).toInt = b.toInt + 1 := by
  have h1 : -2147483648 ≤ b.toInt := by have := Int32.le_toInt b; omega
  rw [Int32.toInt_add, show (1 : Int32).toInt = 1 by decide]
  exact Int.bmod_eq_of_le (by omega) (by omega)
/-- several blocks: the loops of both records, from block b to block l -/
theorem record_loop (e n l : Int32) (hl0 : l.toInt < 2147483646) : ∀ (fu : Nat) (b : Int32) (S : hS) (s : mS), rDisk S s → s.1 60 + n = e → (s.1 60 + n - 1) / 500 = l → (l.toInt + 1 - b.toInt).toNat < fu → ∃ r S' s', hl_Di_writeRecord_27 fu e l b S = some (r, S') ∧ l_Mo_record_9 fu n b s = some (r, s') ∧ rDisk S' s' ∧ hAg kDi S S' ∧ mAg kMd s s' ∧ ((r = 1 ∧ s'.1 7 = s.1 7 ∧ s'.1 8 = s.1 8 ∧ s'.1 57 = s.1 57 ∧ s'.1 60 = e) ∨ (r = 0 ∧ s'.1 7 = 0 ∧ s'.1 8 = 0 ∧ s'.1 57 = 0 ∧ s'.1 60 = s.1 60)) := by
  intro fu
  induction fu with
  | zero => intro b S s _ _ _ hm; omega
  | succ fu ih =>
    intro b S s h he hl hm
    unfold hl_Di_writeRecord_27 l_Mo_record_9
    rw [hl]
    by_cases hb : l < b
    · rw [if_pos hb, if_pos hb, he]
      exact ⟨1, _, _, rfl, rfl, ⟨h.1, h.2.1, h.2.2.1, rfl⟩, hAg.rf.put (Or.inr (Or.inr (Or.inr rfl))), mAg.rf.put (Or.inr (Or.inr (Or.inr (Or.inl rfl)))), Or.inl ⟨rfl, rfl, rfl, rfl, rfl⟩⟩
    · rw [if_neg hb, if_neg hb]
      have hb2 : b.toInt ≤ l.toInt := by
        rw [Int32.lt_iff_toInt_lt] at hb
        omega
      rcases write_both S s h with ⟨S', s', e1, e2, r1, g1, g2, q7, q8, q57, q60⟩ | ⟨S', s', e1, e2, r1, g1, g2, q7, q8, q57, q60⟩
      · rw [e1, e2]
        obtain ⟨r, S'', s'', z1, z2, z3, z4, z5, z6⟩ := ih (b + 1) S' s' r1 (by rw [q60]; exact he) (by rw [q60]; exact hl) (by rw [i32_add1 (by omega)]; omega)
        refine ⟨r, S'', s'', bnd1.trans z1, bnd1.trans z2, z3, g1.tr z4, g2.tr z5, ?_⟩
        rcases z6 with ⟨y1, y2, y3, y4, y5⟩ | ⟨y1, y2, y3, y4, y5⟩
        · exact Or.inl ⟨y1, y2.trans q7, y3.trans q8, y4.trans q57, y5⟩
        · exact Or.inr ⟨y1, y2, y3, y4, y5.trans q60⟩
      · rw [e1, e2]
        exact ⟨0, S', s', bnd0, bnd0, r1, g1, g2, Or.inr ⟨rfl, q7, q8, q57, q60⟩⟩
theorem nI_div {m k : Nat} (hm : m < 2147483648) (hk : k < 2147483648) (hk0 : 0 < k) : nI m / nI k = nI (m / k) := nI_div' hm hk hk0
theorem nI_sub {m k : Nat} (hm : m < 2147483648) (hk : k ≤ m) : nI m - nI k = nI (m - k) := by
  apply Int32.toInt_inj.mp
  rw [Int32.toInt_sub, nI_toInt hm, nI_toInt (by omega), nI_toInt (by omega)]
  rw [Int.bmod_eq_of_le (by omega) (by omega)]
  omega
/-- a record of 4 and n bytes -/
theorem record_both (S : hS) (s : mS) (h : rDisk S s) (j n : Nat) (hj : s.1 60 = nI j) (hj2 : j < 1000000) (hn : n ≤ 400) : ∃ r S' s', h_Di_writeRecord (nI n) S = some (r, S') ∧ d_Mo_record (4 + nI n) s = some (r, s') ∧ rDisk S' s' ∧ hAg kDi S S' ∧ mAg kMd s s' ∧ ((r = 1 ∧ s'.1 7 = s.1 7 ∧ s'.1 8 = s.1 8 ∧ s'.1 57 = s.1 57 ∧ s'.1 60 = nI (j + 4 + n)) ∨ (r = 0 ∧ s'.1 7 = 0 ∧ s'.1 8 = 0 ∧ s'.1 57 = 0 ∧ s'.1 60 = nI j)) := by
  unfold h_Di_writeRecord d_Mo_record
  rw [h.2.2.2, hj]
  have e1 : nI j + 4 + nI n = nI (j + 4 + n) := by rw [show nI j + 4 = nI (j + 4) from am_nadd j 4, am_nadd]
  have e2 : nI j + (4 + nI n) = nI (j + 4 + n) := by rw [show (4 : Int32) + nI n = nI (4 + n) from am_nadd 4 n, am_nadd, Nat.add_assoc]
  have e3 : (nI (j + 4 + n) - 1) / 500 = nI ((j + 4 + n - 1) / 500) := by
    rw [show nI (j + 4 + n) - 1 = nI (j + 4 + n - 1) from nI_sub (k := 1) (by omega) (by omega)]
    exact nI_div (k := 500) (by omega) (by omega) (by omega)
  have e4 : nI j / 500 = nI (j / 500) := nI_div (k := 500) (by omega) (by omega) (by omega)
  rw [e1, e3, e4]
  have t1 : (nI ((j + 4 + n - 1) / 500)).toInt = (((j + 4 + n - 1) / 500 : Nat) : Int) := nI_toInt (by omega)
  have t2 : (nI (j / 500)).toInt = ((j / 500 : Nat) : Int) := nI_toInt (by omega)
  obtain ⟨r, S', s', z1, z2, z3, z4, z5, z6⟩ := record_loop (nI (j + 4 + n)) (4 + nI n) (nI ((j + 4 + n - 1) / 500)) (by rw [t1]; omega) 100000 (nI (j / 500)) S s h (by rw [hj, e2]) (by rw [hj, e2, e3]) (by rw [t1, t2]; omega)
  refine ⟨r, S', s', z1, z2, z3, z4, z5, ?_⟩
  rw [hj] at z6
  exact z6
