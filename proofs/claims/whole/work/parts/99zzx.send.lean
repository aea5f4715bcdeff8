/-! Sending: what stands on both sides while a message is under way. -/
def SG (z : Z) (S : hS) (s : mS) : Prop := (S.2.1 1 0 = nI 0) ∧ (s.1 1 = nI 0) ∧ (∀ j, am_bn 2 (s.2.2.1 23 j) = s.2.2.1 23 j) ∧ (S.2.1 503 20 = s.1 55) ∧ (S.2.1 504 20 = nI z.tick) ∧ (s.1 56 = nI z.tick) ∧ (rDisk S s) ∧ (s.1 61 = 0) ∧ (S.2.1 202 7 = nI 0) ∧ (s.1 8 = nI 0)
theorem SG.a1 {z : Z} {S : hS} {s : mS} (h : SG z S s) : S.2.1 1 0 = nI 0 := h.1
theorem SG.a2 {z : Z} {S : hS} {s : mS} (h : SG z S s) : s.1 1 = nI 0 := h.2.1
theorem SG.tb {z : Z} {S : hS} {s : mS} (h : SG z S s) : ∀ j, am_bn 2 (s.2.2.1 23 j) = s.2.2.1 23 j := h.2.2.1
theorem SG.dy {z : Z} {S : hS} {s : mS} (h : SG z S s) : S.2.1 503 20 = s.1 55 := h.2.2.2.1
theorem SG.t1 {z : Z} {S : hS} {s : mS} (h : SG z S s) : S.2.1 504 20 = nI z.tick := h.2.2.2.2.1
theorem SG.t2 {z : Z} {S : hS} {s : mS} (h : SG z S s) : s.1 56 = nI z.tick := h.2.2.2.2.2.1
theorem SG.dk {z : Z} {S : hS} {s : mS} (h : SG z S s) : rDisk S s := h.2.2.2.2.2.2.1
theorem SG.fl {z : Z} {S : hS} {s : mS} (h : SG z S s) : s.1 61 = 0 := h.2.2.2.2.2.2.2.1
theorem SG.e1 {z : Z} {S : hS} {s : mS} (h : SG z S s) : S.2.1 202 7 = nI 0 := h.2.2.2.2.2.2.2.2.1
theorem SG.e2 {z : Z} {S : hS} {s : mS} (h : SG z S s) : s.1 8 = nI 0 := h.2.2.2.2.2.2.2.2.2
theorem SG.tr {z z' : Z} {S S' : hS} {s s' : mS} {mi ml ma mb : List Nat} (h : SG z S s) (w : KP S S') (e : S'.2.1 202 7 = S.2.1 202 7) (v : mX mi ml ma mb s s') (m1 : ∀ k ∈ [1, 8, 55, 56, 57, 58, 59, 60, 61], k ∉ mi) (m2 : 23 ∉ ma) (ht : z'.tick = z.tick) : SG z' S' s' := by
  refine ⟨by rw [w.i1]; exact h.a1, by rw [v.1 1 (m1 _ (by decide))]; exact h.a2, by rw [v.2.2.1 23 m2]; exact h.tb, by rw [w.i503, v.1 55 (m1 _ (by decide))]; exact h.dy, by rw [w.i504, ht]; exact h.t1, by rw [v.1 56 (m1 _ (by decide)), ht]; exact h.t2, ?_, by rw [v.1 61 (m1 _ (by decide))]; exact h.fl, by rw [e]; exact h.e1, by rw [v.1 8 (m1 _ (by decide))]; exact h.e2⟩
  obtain ⟨d1, d2, d3, d4⟩ := h.dk
  exact ⟨by rw [w.i600, v.1 57 (m1 _ (by decide))]; exact d1, by rw [w.i601, v.1 58 (m1 _ (by decide))]; exact d2, by rw [w.i602, v.1 59 (m1 _ (by decide))]; exact d3, by rw [w.i603, v.1 60 (m1 _ (by decide))]; exact d4⟩
theorem SG.rc {z : Z} {S S' : hS} {s s' : mS} (h : SG z S s) (w : hX [600, 601, 602, 603] [] [] [] [] [] S S') (v : mX [7, 8, 57, 58, 59, 60] [] [] [] s s') (dk : rDisk S' s') (e2 : s'.1 8 = nI 0) : SG z S' s' := ⟨by rw [w.ei 1 (by decide)]; exact h.a1, by rw [v.1 1 (by decide)]; exact h.a2, by rw [v.2.2.1 23 (by simp)]; exact h.tb, by rw [w.ei 503 (by decide), v.1 55 (by decide)]; exact h.dy, by rw [w.ei 504 (by decide)]; exact h.t1, by rw [v.1 56 (by decide)]; exact h.t2, dk, by rw [v.1 61 (by decide)]; exact h.fl, by rw [w.ei 202 (by decide)]; exact h.e1, e2⟩
theorem SG.fin {n : Nat} {z : Z} {S : hS} {s : mS} {g : hG} {q u : List Ins} {L : Nat} {bs : List Int32} (h : SG z S s) (hA : HAn S bs) (hA' : AN s bs) (hl : bs.length ≤ 6000) (hz : HZ S z g q u L []) (hb : MB s z) (hq : MQu s z) (m0 : M0 s) (hc : HTx S z.txs) (hx : MXt s z.txs) (ok : okZ n z) (ot : okT n z) (gd : good z) (na : z.fst (fun _ => false) q = none) (us : ∀ i ∈ z.ins, ∃ t ∈ z.txs, t.who = i.who ∧ t.nm = i.nm) (sh : 900 ≤ z.tick → z.ins = []) (fb : ∃ b, s.1 54 = b2i b) (lb : L ≤ 800000 * n) (ln : S.1.length ≤ 60 + 300 * n) (jr : ∃ j, s.1 60 = nI j ∧ j ≤ 404 * n) (up : s.1 57 = 0 → s.1 7 = 0 ∧ s.1 8 = 0) : IN n S s := by
  refine ⟨z, g, q, u, L, ⟨⟨0, by omega, h.a1, h.a2, fun j hj => by omega⟩, h.tb, ⟨bs.length, 0, hl, by omega, hA.1, hA'.1, h.e1, h.e2, fun j hj => ?_⟩, h.dk, h.dy, hz, hb, hq, m0, h.t1, h.t2, hc, hx, ok, ot, gd, na, us, sh, h.fl, fb, lb, ln, jr, up⟩⟩
  obtain ⟨b, hb'⟩ := get_lt (ks := bs) hj
  rw [hA.2 j b hb', hA'.2 j b hb']
theorem d_copy_loop {N : Nat} (hN : N ≤ 400) : ∀ (d fu j : Nat) (s : mS), (∀ i, am_bn 2 (s.2.2.1 23 i) = s.2.2.1 23 i) → N - j = d → d < fu → j ≤ N → ∃ s', l_Mo_send_24 fu (nI N) (nI j) s = some s' ∧ mX [] [] [24] [] s s' ∧ (∀ i, s'.2.2.1 24 i = if j ≤ i ∧ i < N then s.2.2.1 23 i else s.2.2.1 24 i) := by
  intro d
  induction d with
  | zero =>
    intro fu j s hb hd hf hj
    obtain ⟨fu, rfl⟩ : ∃ f, fu = f + 1 := ⟨fu - 1, by omega⟩
    unfold l_Mo_send_24
    exact ⟨s, by rw [if_pos (nI_le0 (by omega) (by omega) (by omega))], mX.rf, fun i => by rw [if_neg (by omega)]⟩
  | succ d ih =>
    intro fu j s hb hd hf hj
    obtain ⟨fu, rfl⟩ : ∃ f, fu = f + 1 := ⟨fu - 1, by omega⟩
    obtain ⟨s1, hs1⟩ : ∃ s1, s1 = mA s 24 j (s.2.2.1 23 j) := ⟨_, rfl⟩
    have x1 : mX [] [] [24] [] s s1 := by rw [hs1]; exact mX.A mX.rf (by decide)
    have e24 : ∀ i, s1.2.2.1 24 i = if i = j then s.2.2.1 23 j else s.2.2.1 24 i := fun i => by rw [hs1]; exact mA_at s 24 j _ i
    obtain ⟨s', r1, r2, r3⟩ := ih fu (j + 1) s1 (by rw [x1.2.2.1 23 (by decide)]; exact hb) (by omega) (by omega) (by omega)
    refine ⟨s', ?_, x1.tr r2, fun i => ?_⟩
    · unfold l_Mo_send_24
      rw [if_neg (nI_ngt (by omega) (by omega) (by omega)), ix_N (by omega) (by omega), Option.bind_some, hb j, ← hs1, nI_add1]
      exact r1
    · rw [r3 i, e24 i, x1.2.2.1 23 (by decide)]
      by_cases c : i = j
      · rw [if_neg (by omega), if_pos c, if_pos (by omega), c]
      · rw [if_neg c]
        by_cases c2 : j + 1 ≤ i ∧ i < N
        · rw [if_pos c2, if_pos (by omega)]
        · rw [if_neg c2, if_neg (by omega)]
theorem TXT.cg {f f' : Nat → Int32} {n : Nat} {M : List Nat} (h : TXT f n M) (e : ∀ j, j < n → f' j = f j) : TXT f' n M := ⟨h.1, h.2.1, fun j z hj => by
  rw [e j (by have := get_lt' hj; have := h.1; omega)]
  exact h.2.2 j z hj⟩
theorem okM_un {k k' : Nat} {M : List Nat} (h : okM k M) (h' : okM k' M) : k = k' := mt_un h.1.1 h'.1.1 h.1.2 h'.1.2
section
variable {n : Nat} {S : hS} {s : mS} {z : Z} {g : hG} {q u : List Ins} {L : Nat}
/-- the message is read on both sides -/
theorem send_read (h : INV n S s z g q u L) (hn : n < 512) {N t : Nat} (hN : 1 ≤ N ∧ N ≤ t) (ht : t ≤ 400) (hj : ∀ j, j < t → S.2.2.2.2.1 1 j = s.2.2.1 23 j) : ∃ S1 r S3 s1 s2, h_An_clear S = some S1 ∧ h_Me_read (nI N) (hpI S1 1 0 0) = some (r, S3) ∧ l_Mo_send_24 100000 (nI N) 0 s = some s1 ∧ d_Mo_silence (mI (mI s1 3 (nI N)) 1 0) = some s2 ∧ SG z S3 s2 ∧ HZ S3 z g q u L [] ∧ HTx S3 z.txs ∧ HAn S3 [] ∧ S3.1 = S.1 ∧ mX [1, 3, 7, 8] [] [24] [] s s2 ∧ AN s2 [] ∧ s2.1 3 = nI N ∧ (∀ j, j < N → S3.2.2.2.2.1 1 j = s2.2.2.1 24 j) ∧ ((r = 0 ∧ ∀ M k, TXT (S3.2.2.2.2.1 1) N M → ¬ okM k M) ∨ (r = 1 ∧ ∃ M k, TXT (S3.2.2.2.2.1 1) N M ∧ okM k M ∧ MSG S3 k M)) := by
  obtain ⟨S1, hS1⟩ : ∃ S1, S1 = hpI (hpI S 201 7 0) 202 7 0 := ⟨_, rfl⟩
  obtain ⟨S2, hS2⟩ : ∃ S2, S2 = hpI S1 1 0 0 := ⟨_, rfl⟩
  have w2 : hX [1, 201, 202] [] [] [] [] [] S S2 := by rw [hS2, hS1]; exact ((hX.rf.pI (by decide)).pI (by decide)).pI (by decide)
  obtain ⟨r, S3, r1, r2, r3⟩ := h_read (S := S2) (n := N) (by omega)
  have w3 : hX [1, 201, 202, 801, 802, 803, 804, 805, 810, 812, 814, 815, 816, 817] [806, 818] [] [3, 4] [6] [] S S3 := (w2.mono (by decide) (by simp) (by simp) (by simp) (by simp) (by simp)).tr (r2.mono (by decide) (by simp) (by simp) (by simp) (by simp) (by simp))
  obtain ⟨s1, c1, c2, c3⟩ := d_copy_loop (N := N) (by omega) _ 100000 0 s h.tb rfl (by omega) (by omega)
  have c1' : l_Mo_send_24 100000 (nI N) 0 s = some s1 := c1
  obtain ⟨s2, hs2⟩ : ∃ s2, s2 = mI (mI (mI (mI s1 3 (nI N)) 1 0) 7 0) 8 0 := ⟨_, rfl⟩
  have v2 : mX [1, 3, 7, 8] [] [24] [] s s2 := by
    rw [hs2]
    exact ((((c2.mono (by simp) (by simp) (by simp) (by simp)).I (by decide)).I (by decide)).I (by decide)).I (by decide)
  have a1 : S3.2.2.2.2.1 1 = S.2.2.2.2.1 1 := w3.a 1 (by decide)
  have a1' : S3.2.2.2.2.1 1 = S2.2.2.2.2.1 1 := r2.a 1 (by decide)
  have e24 : s2.2.2.1 24 = s1.2.2.1 24 := by rw [hs2]; rfl
  have i201 : S3.2.1 201 7 = 0 := by rw [r2.ei 201 (by decide), hS2, hS1]; simp [hpI, up2]
  have i202 : S3.2.1 202 7 = 0 := by rw [r2.ei 202 (by decide), hS2, hS1]; simp [hpI, up2]
  have i1 : S3.2.1 1 0 = 0 := by rw [r2.ei 1 (by decide), hS2]; simp [hpI, up2]
  refine ⟨S1, r, S3, s1, s2, by rw [hS1]; rfl, by rw [← hS2]; exact r1, c1', by rw [hs2]; rfl, ?_, h.hz.w (GW.ofX w3 (by decide) (by decide) (by simp) (by decide) (by decide) rfl), h.hc.x (h.am (by omega)) w3 (by decide) (by decide) (by simp) (fun k hk => Or.inl (by simp at hk; omega)) (by simp), ⟨by rw [i201]; rfl, fun j b hb => by cases hb⟩, w3.sh, v2, ⟨by rw [hs2]; rfl, fun j b hb => by cases hb⟩, by rw [hs2]; simp [mI, va_up], fun j hjN => ?_, ?_⟩
  · refine ⟨i1, by rw [hs2]; simp [mI, va_up]; rfl, by rw [v2.2.2.1 23 (by decide)]; exact h.tb, by rw [w3.ei 503 (by decide), v2.1 55 (by decide)]; exact h.dy, by rw [w3.ei 504 (by decide)]; exact h.t1, by rw [v2.1 56 (by decide)]; exact h.t2, h.dk.x w3 v2 (by decide) (by decide), by rw [v2.1 61 (by decide)]; exact h.fl, i202, by rw [hs2]; simp [mI, va_up]; rfl⟩
  · rw [e24, c3 j, if_pos (by omega), a1]
    exact hj j (by omega)
  · rw [a1']; exact r3
end
