/-! What holds between calls. -/
def INV (n : Nat) (S : hS) (s : mS) (z : Z) (g : hG) (q u : List Ins) (L : Nat) : Prop := (rTape S s) ∧ (∀ j, am_bn 2 (s.2.2.1 23 j) = s.2.2.1 23 j) ∧ (rAns S s) ∧ (rDisk S s) ∧ (S.2.1 503 20 = s.1 55) ∧ (HZ S z g q u L []) ∧ (MB s z) ∧ (MQu s z) ∧ (M0 s) ∧ (S.2.1 504 20 = nI z.tick) ∧ (s.1 56 = nI z.tick) ∧ (HTx S z.txs) ∧ (MXt s z.txs) ∧ (okZ n z) ∧ (okT n z) ∧ (good z) ∧ (z.fst (fun _ => false) q = none) ∧ (∀ i ∈ z.ins, ∃ t ∈ z.txs, t.who = i.who ∧ t.nm = i.nm) ∧ (900 ≤ z.tick → z.ins = []) ∧ (s.1 61 = 0) ∧ (∃ b, s.1 54 = b2i b) ∧ (L ≤ 800000 * n) ∧ (S.1.length ≤ 60 + 300 * n) ∧ (∃ j, s.1 60 = nI j ∧ j ≤ 404 * n) ∧ (s.1 57 = 0 → s.1 7 = 0 ∧ s.1 8 = 0)
theorem INV.tp {n : Nat} {S : hS} {s : mS} {z : Z} {g : hG} {q u : List Ins} {L : Nat} (h : INV n S s z g q u L) : rTape S s := h.1
theorem INV.tb {n : Nat} {S : hS} {s : mS} {z : Z} {g : hG} {q u : List Ins} {L : Nat} (h : INV n S s z g q u L) : ∀ j, am_bn 2 (s.2.2.1 23 j) = s.2.2.1 23 j := h.2.1
theorem INV.an {n : Nat} {S : hS} {s : mS} {z : Z} {g : hG} {q u : List Ins} {L : Nat} (h : INV n S s z g q u L) : rAns S s := h.2.2.1
theorem INV.dk {n : Nat} {S : hS} {s : mS} {z : Z} {g : hG} {q u : List Ins} {L : Nat} (h : INV n S s z g q u L) : rDisk S s := h.2.2.2.1
theorem INV.dy {n : Nat} {S : hS} {s : mS} {z : Z} {g : hG} {q u : List Ins} {L : Nat} (h : INV n S s z g q u L) : S.2.1 503 20 = s.1 55 := h.2.2.2.2.1
theorem INV.hz {n : Nat} {S : hS} {s : mS} {z : Z} {g : hG} {q u : List Ins} {L : Nat} (h : INV n S s z g q u L) : HZ S z g q u L [] := h.2.2.2.2.2.1
theorem INV.hb {n : Nat} {S : hS} {s : mS} {z : Z} {g : hG} {q u : List Ins} {L : Nat} (h : INV n S s z g q u L) : MB s z := h.2.2.2.2.2.2.1
theorem INV.hq {n : Nat} {S : hS} {s : mS} {z : Z} {g : hG} {q u : List Ins} {L : Nat} (h : INV n S s z g q u L) : MQu s z := h.2.2.2.2.2.2.2.1
theorem INV.m0 {n : Nat} {S : hS} {s : mS} {z : Z} {g : hG} {q u : List Ins} {L : Nat} (h : INV n S s z g q u L) : M0 s := h.2.2.2.2.2.2.2.2.1
theorem INV.t1 {n : Nat} {S : hS} {s : mS} {z : Z} {g : hG} {q u : List Ins} {L : Nat} (h : INV n S s z g q u L) : S.2.1 504 20 = nI z.tick := h.2.2.2.2.2.2.2.2.2.1
theorem INV.t2 {n : Nat} {S : hS} {s : mS} {z : Z} {g : hG} {q u : List Ins} {L : Nat} (h : INV n S s z g q u L) : s.1 56 = nI z.tick := h.2.2.2.2.2.2.2.2.2.2.1
theorem INV.hc {n : Nat} {S : hS} {s : mS} {z : Z} {g : hG} {q u : List Ins} {L : Nat} (h : INV n S s z g q u L) : HTx S z.txs := h.2.2.2.2.2.2.2.2.2.2.2.1
theorem INV.hx {n : Nat} {S : hS} {s : mS} {z : Z} {g : hG} {q u : List Ins} {L : Nat} (h : INV n S s z g q u L) : MXt s z.txs := h.2.2.2.2.2.2.2.2.2.2.2.2.1
theorem INV.ok {n : Nat} {S : hS} {s : mS} {z : Z} {g : hG} {q u : List Ins} {L : Nat} (h : INV n S s z g q u L) : okZ n z := h.2.2.2.2.2.2.2.2.2.2.2.2.2.1
theorem INV.ot {n : Nat} {S : hS} {s : mS} {z : Z} {g : hG} {q u : List Ins} {L : Nat} (h : INV n S s z g q u L) : okT n z := h.2.2.2.2.2.2.2.2.2.2.2.2.2.2.1
theorem INV.gd {n : Nat} {S : hS} {s : mS} {z : Z} {g : hG} {q u : List Ins} {L : Nat} (h : INV n S s z g q u L) : good z := h.2.2.2.2.2.2.2.2.2.2.2.2.2.2.2.1
theorem INV.na {n : Nat} {S : hS} {s : mS} {z : Z} {g : hG} {q u : List Ins} {L : Nat} (h : INV n S s z g q u L) : z.fst (fun _ => false) q = none := h.2.2.2.2.2.2.2.2.2.2.2.2.2.2.2.2.1
theorem INV.us {n : Nat} {S : hS} {s : mS} {z : Z} {g : hG} {q u : List Ins} {L : Nat} (h : INV n S s z g q u L) : ∀ i ∈ z.ins, ∃ t ∈ z.txs, t.who = i.who ∧ t.nm = i.nm := h.2.2.2.2.2.2.2.2.2.2.2.2.2.2.2.2.2.1
theorem INV.sh {n : Nat} {S : hS} {s : mS} {z : Z} {g : hG} {q u : List Ins} {L : Nat} (h : INV n S s z g q u L) : 900 ≤ z.tick → z.ins = [] := h.2.2.2.2.2.2.2.2.2.2.2.2.2.2.2.2.2.2.1
theorem INV.fl {n : Nat} {S : hS} {s : mS} {z : Z} {g : hG} {q u : List Ins} {L : Nat} (h : INV n S s z g q u L) : s.1 61 = 0 := h.2.2.2.2.2.2.2.2.2.2.2.2.2.2.2.2.2.2.2.1
theorem INV.fb {n : Nat} {S : hS} {s : mS} {z : Z} {g : hG} {q u : List Ins} {L : Nat} (h : INV n S s z g q u L) : ∃ b, s.1 54 = b2i b := h.2.2.2.2.2.2.2.2.2.2.2.2.2.2.2.2.2.2.2.2.1
theorem INV.lb {n : Nat} {S : hS} {s : mS} {z : Z} {g : hG} {q u : List Ins} {L : Nat} (h : INV n S s z g q u L) : L ≤ 800000 * n := h.2.2.2.2.2.2.2.2.2.2.2.2.2.2.2.2.2.2.2.2.2.1
theorem INV.ln {n : Nat} {S : hS} {s : mS} {z : Z} {g : hG} {q u : List Ins} {L : Nat} (h : INV n S s z g q u L) : S.1.length ≤ 60 + 300 * n := h.2.2.2.2.2.2.2.2.2.2.2.2.2.2.2.2.2.2.2.2.2.2.1
theorem INV.jr {n : Nat} {S : hS} {s : mS} {z : Z} {g : hG} {q u : List Ins} {L : Nat} (h : INV n S s z g q u L) : ∃ j, s.1 60 = nI j ∧ j ≤ 404 * n := h.2.2.2.2.2.2.2.2.2.2.2.2.2.2.2.2.2.2.2.2.2.2.2.1
theorem INV.up {n : Nat} {S : hS} {s : mS} {z : Z} {g : hG} {q u : List Ins} {L : Nat} (h : INV n S s z g q u L) : s.1 57 = 0 → s.1 7 = 0 ∧ s.1 8 = 0 := h.2.2.2.2.2.2.2.2.2.2.2.2.2.2.2.2.2.2.2.2.2.2.2.2
def IN (n : Nat) (S : hS) (s : mS) : Prop := ∃ z g q u L, INV n S s z g q u L
section
variable {n : Nat} {S S' : hS} {s s' : mS} {z : Z} {g : hG} {q u : List Ins} {L : Nat}
theorem okT.up (h : okT n z) : okT (n + 1) z := ⟨by have := h.1; omega, h.2⟩
theorem INV.mono (h : INV n S s z g q u L) : INV (n + 1) S s z g q u L := ⟨h.tp, h.tb, h.an, h.dk, h.dy, h.hz, h.hb, h.hq, h.m0, h.t1, h.t2, h.hc, h.hx, h.ok.up, h.ot.up, h.gd, h.na, h.us, h.sh, h.fl, h.fb, by have := h.lb; omega, by have := h.ln; omega, by obtain ⟨j, j1, j2⟩ := h.jr; exact ⟨j, j1, by omega⟩, h.up⟩
theorem i32N {a : Int32} (h : ¬ a < 0) : ∃ N : Nat, a = nI N ∧ N < 2147483648 := by
  have h1 : 0 ≤ a.toInt := Int.not_lt.mp (fun c => h (Int32.lt_iff_toInt_lt.mpr c))
  have h2 : a.toInt < 2147483648 := Int32.toInt_lt a
  refine ⟨a.toInt.toNat, ?_, by omega⟩
  apply Int32.toInt_inj.mp
  rw [nI_toInt1 (by omega)]
  omega
theorem INV.am (h : INV n S s z g q u L) (hn : n ≤ 512) : S.1.length ≤ am_M + 1 := by
  have := h.ln
  have e : am_M = 16777216 := rfl
  omega
/-- a part that neither picture of the house reads -/
theorem INV.fr {ki ka : List Nat} {mi ml ma : List Nat} (h : INV n S s z g q u L) (hn : n ≤ 512) (w : hX ki [] [] ka [] [] S S') (v : mX mi ml ma [] s s') (k1 : ∀ k ∈ ki, k ∈ [1, 201, 202, 600, 601, 602, 603]) (k2 : ∀ k ∈ ka, k ∈ [1, 8]) (m1 : ∀ k ∈ mi, k ∈ [1, 7, 8, 57, 58, 59, 60]) (m2 : ∀ k ∈ ma, k ∈ [23, 25]) (m3 : ml = []) (tp : rTape S' s') (tb : ∀ j, am_bn 2 (s'.2.2.1 23 j) = s'.2.2.1 23 j) (an : rAns S' s') (dk : rDisk S' s') (jr : ∃ j, s'.1 60 = nI j ∧ j ≤ 404 * (n + 1)) (up : s'.1 57 = 0 → s'.1 7 = 0 ∧ s'.1 8 = 0) : INV (n + 1) S' s' z g q u L := by
  subst m3
  have nki : ∀ k, k ∉ [1, 201, 202, 600, 601, 602, 603] → k ∉ ki := fun k hk c => hk (k1 k c)
  have nmi : ∀ k, k ∉ [1, 7, 8, 57, 58, 59, 60] → k ∉ mi := fun k hk c => hk (m1 k c)
  have nma : ∀ k, k ∉ [23, 25] → k ∉ ma := fun k hk c => hk (m2 k c)
  have gw : GW S S' := GW.ofX w (fun k hk => by have := k1 k hk; simp at this ⊢; omega) (by simp) (by simp) (fun k hk => by have := k2 k hk; simp at this ⊢; omega) (by simp) rfl
  have hm := h.mono
  refine ⟨tp, tb, an, dk, by rw [w.ei 503 (nki _ (by decide)), v.1 55 (nmi _ (by decide))]; exact h.dy, h.hz.w gw, h.hb.x5 v ⟨nmi _ (by decide), nmi _ (by decide), nmi _ (by decide), nmi _ (by decide)⟩ ⟨nma _ (by decide), nma _ (by decide), nma _ (by decide)⟩ (by simp), h.hq.x5 v (nmi _ (by decide)) (fun k hk => by have := m2 k hk; simp at this; omega) (by simp) (by simp), h.m0.x v (nmi _ (by decide)) ⟨nma _ (by decide), nma _ (by decide)⟩ (by simp), by rw [w.ei 504 (nki _ (by decide))]; exact h.t1, by rw [v.1 56 (nmi _ (by decide))]; exact h.t2, h.hc.x (h.am hn) w ⟨nki _ (by decide), nki _ (by decide)⟩ (by simp) (by simp) (fun k hk => Or.inl (by have := k2 k hk; simp at this; omega)) (by simp), h.hx.x v (nmi _ (by decide)) ⟨nma _ (by decide), nma _ (by decide), nma _ (by decide)⟩ (by simp), hm.ok, hm.ot, h.gd, h.na, h.us, h.sh, by rw [v.1 61 (nmi _ (by decide))]; exact h.fl, by rw [v.1 54 (nmi _ (by decide))]; exact h.fb, hm.lb, by rw [w.sh]; exact hm.ln, jr, up⟩
theorem hAg.x {P : Nat → Prop} {ki : List Nat} (h : hAg P S S') (hP : ∀ k, P k → k ∈ ki) : hX ki [] [] [] [] [] S S' := by
  obtain ⟨h1, h2, h3⟩ := h
  refine ⟨h1, fun k hk => ?_, fun k _ => by rw [h3], fun k _ => by rw [h3], fun k _ => by rw [h3], fun k _ => by rw [h3], fun k _ => by rw [h3]⟩
  funext a
  exact h2 k a (fun c => hk (hP k c))
theorem mAg.x {P : Nat → Prop} {ki : List Nat} (h : mAg P s s') (hP : ∀ k, P k → k ∈ ki) : mX ki [] [] [] s s' := by
  obtain ⟨h1, h2⟩ := h
  exact ⟨fun k hk => h1 k (fun c => hk (hP k c)), fun k _ => by rw [h2], fun k _ => by rw [h2], fun k _ => by rw [h2]⟩
theorem kDi_in : ∀ k, kDi k → k ∈ [600, 601, 602, 603] := fun k h => by
  rcases h with c | c | c | c <;> rw [c] <;> decide
theorem kMd_in : ∀ k, kMd k → k ∈ [7, 8, 57, 58, 59, 60] := fun k h => by
  rcases h with c | c | c | c | c | c <;> rw [c] <;> decide
theorem rTape.x (h : rTape S s) {ki kl kr ka kb kq : List Nat} {mi ml ma mb : List Nat} (w : hX ki kl kr ka kb kq S S') (v : mX mi ml ma mb s s') (h1 : 1 ∉ ki) (h2 : 1 ∉ ka) (h3 : 1 ∉ mi) (h4 : 23 ∉ ma) : rTape S' s' := by
  obtain ⟨t, a1, a2, a3, a4⟩ := h
  exact ⟨t, a1, by rw [w.ei 1 h1]; exact a2, by rw [v.1 1 h3]; exact a3, fun j hj => by rw [w.a 1 h2, v.2.2.1 23 h4]; exact a4 j hj⟩
theorem rAns.x (h : rAns S s) {ki kl kr ka kb kq : List Nat} {mi ml ma mb : List Nat} (w : hX ki kl kr ka kb kq S S') (v : mX mi ml ma mb s s') (h1 : 201 ∉ ki ∧ 202 ∉ ki) (h2 : 8 ∉ ka) (h3 : 7 ∉ mi ∧ 8 ∉ mi) (h4 : 25 ∉ ma) : rAns S' s' := by
  obtain ⟨m, t, a1, a2, a3, a4, a5, a6, a7⟩ := h
  exact ⟨m, t, a1, a2, by rw [w.ei 201 h1.1]; exact a3, by rw [v.1 7 h3.1]; exact a4, by rw [w.ei 202 h1.2]; exact a5, by rw [v.1 8 h3.2]; exact a6, fun j hj => by rw [w.a 8 h2, v.2.2.1 25 h4]; exact a7 j hj⟩
theorem rAns.x7 (h : rAns S s) {ki kl kr ka kb kq : List Nat} {mi ml ma mb : List Nat} (w : hX ki kl kr ka kb kq S S') (v : mX mi ml ma mb s s') (h1 : 201 ∉ ki ∧ 202 ∉ ki) (h2 : 8 ∉ ka) (h3 : s'.1 7 = s.1 7 ∧ s'.1 8 = s.1 8) (h4 : 25 ∉ ma) : rAns S' s' := by
  obtain ⟨m, t, a1, a2, a3, a4, a5, a6, a7⟩ := h
  exact ⟨m, t, a1, a2, by rw [w.ei 201 h1.1]; exact a3, by rw [h3.1]; exact a4, by rw [w.ei 202 h1.2]; exact a5, by rw [h3.2]; exact a6, fun j hj => by rw [w.a 8 h2, v.2.2.1 25 h4]; exact a7 j hj⟩
theorem rDisk.x (h : rDisk S s) {ki kl kr ka kb kq : List Nat} {mi ml ma mb : List Nat} (w : hX ki kl kr ka kb kq S S') (v : mX mi ml ma mb s s') (h1 : 600 ∉ ki ∧ 601 ∉ ki ∧ 602 ∉ ki ∧ 603 ∉ ki) (h3 : 57 ∉ mi ∧ 58 ∉ mi ∧ 59 ∉ mi ∧ 60 ∉ mi) : rDisk S' s' := by
  obtain ⟨a1, a2, a3, a4⟩ := h
  exact ⟨by rw [w.ei 600 h1.1, v.1 57 h3.1]; exact a1, by rw [w.ei 601 h1.2.1, v.1 58 h3.2.1]; exact a2, by rw [w.ei 602 h1.2.2.1, v.1 59 h3.2.2.1]; exact a3, by rw [w.ei 603 h1.2.2.2, v.1 60 h3.2.2.2]; exact a4⟩
theorem INV.jr1 (h : INV n S s z g q u L) : ∃ j, s.1 60 = nI j ∧ j ≤ 404 * (n + 1) := h.mono.jr
/-! Feeding, fetching, charging, starting. -/
theorem bn_tby (v k : Int32) : am_bn 2 (tby v k) = tby v k := by
  unfold tby
  generalize Int8.toInt32 (Int32.toInt8 (v >>> (k &&& 31))) = x
  show (x.toInt8.toInt32).toInt8.toInt32 = x.toInt8.toInt32
  rw [Int8.toInt8_toInt32]
theorem mT1_b {t : Nat} {v k : Int32} (h : ∀ j, am_bn 2 (s.2.2.1 23 j) = s.2.2.1 23 j) : ∀ j, am_bn 2 ((mT1 s t (tby v k)).2.2.1 23 j) = (mT1 s t (tby v k)).2.2.1 23 j := fun j => by
  show am_bn 2 ((mA s 23 t (tby v k)).2.2.1 23 j) = (mA s 23 t (tby v k)).2.2.1 23 j
  rw [mA_at]
  split
  · exact bn_tby v k
  · exact h j
theorem mT4_b {t : Nat} {v : Int32} (h : ∀ j, am_bn 2 (s.2.2.1 23 j) = s.2.2.1 23 j) : ∀ j, am_bn 2 ((mT4 s t v).2.2.1 23 j) = (mT4 s t v).2.2.1 23 j := mT1_b (mT1_b (mT1_b (mT1_b h)))
theorem hT1_x {ki ka : List Nat} {T : hS} {t : Nat} {b : Int32} (h : hX [1] [] [] [1] [] [] S T) : hX [1] [] [] [1] [] [] S (hT1 T t b) := (h.pA (by decide)).pI (by decide)
theorem mT1_x {r : mS} {t : Nat} {b : Int32} (h : mX [1] [] [23] [] s r) : mX [1] [] [23] [] s (mT1 r t b) := (h.A (by decide)).I (by decide)
theorem hT4_x {T : hS} {t : Nat} {b : Int32} (h : hX [1] [] [] [1] [] [] S T) : hX [1] [] [] [1] [] [] S (hT4 T t b) := hT1_x (ki := []) (ka := []) (hT1_x (ki := []) (ka := []) (hT1_x (ki := []) (ka := []) (hT1_x (ki := []) (ka := []) h)))
theorem mT4_x {r : mS} {t : Nat} {b : Int32} (h : mX [1] [] [23] [] s r) : mX [1] [] [23] [] s (mT4 r t b) := mT1_x (mT1_x (mT1_x (mT1_x h)))
theorem i_feed (h : INV n S s z g q u L) (hn : n < 512) (a b c d e : Int32) : ∃ r S' s', h_Ho_feed a b c d e S = some (r, S') ∧ d_Mo_feed a b c d e s = some (r, s') ∧ IN (n + 1) S' s' := by
  rcases feed_both a b c d e S s h.tp with ⟨f1, f2⟩ | ⟨t, f1, f2, f3⟩
  · exact ⟨0, S, s, f1, f2, z, g, q, u, L, h.mono⟩
  · have w : hX [1] [] [] [1] [] [] S (hT20 S t a b c d e) := hT4_x (hT4_x (hT4_x (hT4_x (hT4_x hX.rf))))
    have v : mX [1] [] [23] [] s (mT20 s t a b c d e) := mT4_x (mT4_x (mT4_x (mT4_x (mT4_x mX.rf))))
    refine ⟨1, _, _, f1, f2, z, g, q, u, L, h.fr (by omega) w v (by decide) (by decide) (by decide) (by decide) rfl f3 (mT4_b (mT4_b (mT4_b (mT4_b (mT4_b h.tb))))) (h.an.x w v (by decide) (by decide) (by decide) (by decide)) (h.dk.x w v (by decide) (by decide)) ?_ ?_⟩
    · rw [v.1 60 (by decide)]; exact h.jr1
    · rw [v.1 57 (by decide), v.1 7 (by decide), v.1 8 (by decide)]; exact h.up
theorem i_fetch (h : INV n S s z g q u L) (hn : n < 512) : ∃ r S' s', h_Ho_fetch S = some (r, S') ∧ d_Mo_fetch s = some (r, s') ∧ IN (n + 1) S' s' := by
  obtain ⟨r, S', s', f1, f2, f3, f4, f5⟩ := fetch_both S s h.an
  have w : hX [202] [] [] [] [] [] S S' := f4.x (fun k hk => by rw [hk]; decide)
  have v : mX [8] [] [] [] s s' := f5.x (fun k hk => by rw [hk]; decide)
  refine ⟨r, S', s', f1, f2, z, g, q, u, L, h.fr (by omega) w v (by decide) (by simp) (by decide) (by simp) rfl (h.tp.x w v (by decide) (by simp) (by decide) (by simp)) (by rw [v.2.2.1 23 (by simp)]; exact h.tb) f3 (h.dk.x w v (by decide) (by decide)) ?_ ?_⟩
  · rw [v.1 60 (by decide)]; exact h.jr1
  · rw [v.1 57 (by decide), v.1 7 (by decide)]
    intro c
    obtain ⟨u1, u2⟩ := h.up c
    refine ⟨u1, ?_⟩
    obtain ⟨m, t, a1, a2, a3, a4, a5, a6, a7⟩ := f3
    rw [v.1 7 (by decide), u1] at a4
    have : m = 0 := (nI_e0 (by omega)).mp a4.symm
    rw [a6, show t = 0 by omega]; rfl
theorem i_charge (h : INV n S s z g q u L) (hn : n < 512) (a : Int32) : ∃ r S' s', h_Ho_charge a S = some (r, S') ∧ d_Mo_charge a s = some (r, s') ∧ IN (n + 1) S' s' := by
  obtain ⟨r, S', s', f1, f2, f3, f4, f5⟩ := charge_both a S s h.dk
  have w : hX [600, 601, 602, 603] [] [] [] [] [] S S' := f4.x kDi_in
  have v : mX [58] [] [] [] s s' := f5.x (fun k hk => by rw [hk]; decide)
  refine ⟨r, S', s', f1, f2, z, g, q, u, L, h.fr (by omega) w v (by decide) (by simp) (by decide) (by simp) rfl (h.tp.x w v (by decide) (by simp) (by decide) (by simp)) (by rw [v.2.2.1 23 (by simp)]; exact h.tb) (h.an.x w v (by decide) (by simp) (by decide) (by simp)) f3 ?_ ?_⟩
  · rw [v.1 60 (by decide)]; exact h.jr1
  · rw [v.1 57 (by decide), v.1 7 (by decide), v.1 8 (by decide)]; exact h.up
theorem start2 (h : rDisk S s) : ∃ r S' s', h_Ho_start S = some (r, S') ∧ d_Mo_start s = some (r, s') ∧ rDisk S' s' ∧ hAg kDi S S' ∧ mAg kMd s s' ∧ ((s'.1 7 = s.1 7 ∧ s'.1 8 = s.1 8) ∨ (s.1 57 = 0 ∧ s'.1 7 = 0 ∧ s'.1 8 = 0)) ∧ s'.1 60 = s.1 60 ∧ (s'.1 57 = 0 → s.1 57 = 0) := by
  unfold h_Ho_start d_Mo_start
  rw [h.1]
  by_cases h0 : s.1 57 = 0
  · rw [if_pos h0, if_pos h0]
    rcases write_both S s h with ⟨S', s', e1, e2, r1, g1, g2, q7, q8, q57, q60⟩ | ⟨S', s', e1, e2, r1, g1, g2, q7, q8, q57, q60⟩
    · rw [e1, e2]
      exact ⟨1, hpI S' 600 9 1, mI s' 57 1, bnd1, bnd1, ⟨rfl, r1.2.1, r1.2.2.1, r1.2.2.2⟩, g1.put (Or.inl rfl), g2.put (Or.inl rfl), Or.inl ⟨q7, q8⟩, q60, fun _ => h0⟩
    · rw [e1, e2]
      exact ⟨2, S', s', bnd0, bnd0, r1, g1, g2, Or.inr ⟨h0, q7, q8⟩, q60, fun _ => h0⟩
  · rw [if_neg h0, if_neg h0]; exact ⟨_, _, _, rfl, rfl, h, hAg.rf, mAg.rf, Or.inl ⟨rfl, rfl⟩, rfl, fun c => c⟩
theorem i_start (h : INV n S s z g q u L) (hn : n < 512) : ∃ r S' s', h_Ho_start S = some (r, S') ∧ d_Mo_start s = some (r, s') ∧ IN (n + 1) S' s' := by
  obtain ⟨r, S', s', f1, f2, f3, f4, f5, f6, f7, f8⟩ := start2 h.dk
  have w : hX [600, 601, 602, 603] [] [] [] [] [] S S' := f4.x kDi_in
  have v : mX [7, 8, 57, 58, 59, 60] [] [] [] s s' := f5.x kMd_in
  have h78 : s'.1 7 = s.1 7 ∧ s'.1 8 = s.1 8 := by
    rcases f6 with c | ⟨c0, c1, c2⟩
    · exact c
    · obtain ⟨u1, u2⟩ := h.up c0
      exact ⟨by rw [c1, u1], by rw [c2, u2]⟩
  refine ⟨r, S', s', f1, f2, z, g, q, u, L, h.fr (by omega) w v (by decide) (by simp) (by decide) (by simp) rfl (h.tp.x w v (by decide) (by simp) (by decide) (by simp)) (by rw [v.2.2.1 23 (by simp)]; exact h.tb) (h.an.x7 w v (by decide) (by simp) h78 (by simp)) f3 ?_ ?_⟩
  · rw [f7]; exact h.jr1
  · intro c
    rw [h78.1, h78.2]
    exact h.up (f8 c)
/-! Asking. -/
theorem i_position (h : INV n S s z g q u L) (a b : Int32) : ∃ r, h_Ho_position a b S = some r ∧ d_Mo_position a b s = some r := by
  have hm := h.ok.mem
  have ha := h.ok.ast
  unfold h_Ho_position d_Mo_position
  rw [h.dk.1, h.hz.B.mem, h.hb.mem, h.hz.B.asn, h.hb.asn]
  by_cases c0 : s.1 57 = 0
  · rw [if_pos c0, if_pos c0]; exact ⟨0, rfl, rfl⟩
  rw [if_neg c0, if_neg c0]
  by_cases c1 : a < 0
  · rw [if_pos c1, if_pos c1]; exact ⟨0, rfl, rfl⟩
  rw [if_neg c1, if_neg c1]
  by_cases c2 : nI z.mem.length ≤ a
  · rw [if_pos c2, if_pos c2]; exact ⟨0, rfl, rfl⟩
  rw [if_neg c2, if_neg c2]
  by_cases c3 : b < 0
  · rw [if_pos c3, if_pos c3]; exact ⟨0, rfl, rfl⟩
  rw [if_neg c3, if_neg c3]
  by_cases c4 : b < nI z.ast.length
  · rw [if_pos c4, if_pos c4]
    obtain ⟨p, rfl, p2⟩ := i32N c1
    obtain ⟨x, rfl, x2⟩ := i32N c3
    have hp : p < z.mem.length := Nat.lt_of_not_le (fun w => c2 ((nI_le' (by omega) (by omega)).mpr w))
    have hx : x < z.ast.length := (nI_lt' (by omega) (by omega)).mp c4
    rw [h_level h.hz.B h.ok.x hp hx, show (64 : Int32) * nI p + nI x = nI (64 * p + x) from by rw [show (64 : Int32) = nI 64 from rfl, nI_mul, nI_add'], ix_N (by omega) (by omega), Option.bind_some, Option.bind_some, h.hb.pos _ (by omega)]
    exact ⟨_, rfl, rfl⟩
  · rw [if_neg c4, if_neg c4]; exact ⟨0, rfl, rfl⟩
theorem i_broken (h : INV n S s z g q u L) : ∃ r, h_Ho_broken S = some r ∧ d_Mo_broken s = some r := ⟨0, rfl, by unfold d_Mo_broken; rw [h.fl]⟩
end
