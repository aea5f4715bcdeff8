/-! The reference in one picture: its int fields, long fields, int-like arrays and long arrays (by address). -/
abbrev mS : Type := (Nat → Int32) × (Nat → Int64) × (Nat → Nat → Int32) × (Nat → Nat → Int64)
def mfs (s : mS) : List Value := [.ref 23, .int (s.1 1), .ref 24, .int (s.1 3), .int (s.1 4), .int (s.1 5), .ref 25, .int (s.1 7), .int (s.1 8), .ref 26, .int (s.1 10), .ref 27, .ref 28, .ref 29, .ref 30, .int (s.1 15), .int (s.1 16), .ref 31, .ref 32, .ref 33, .ref 34, .ref 35, .ref 36, .ref 37, .ref 38, .int (s.1 25), .ref 39, .ref 40, .ref 41, .ref 42, .int (s.1 30), .int (s.1 31), .int (s.1 32), .ref 43, .ref 44, .ref 45, .ref 46, .ref 47, .ref 48, .ref 49, .ref 50, .ref 51, .ref 52, .ref 53, .ref 54, .long (s.2.1 45), .ref 55, .ref 56, .int (s.1 48), .ref 57, .ref 58, .ref 59, .long (s.2.1 52), .int (s.1 53), .int (s.1 54), .int (s.1 55), .int (s.1 56), .int (s.1 57), .int (s.1 58), .int (s.1 59), .int (s.1 60), .int (s.1 61)]
/-- its arrays: address, type, length -/
def mat : List (Nat × Nat × Nat) := [(23, 2, 400), (24, 2, 400), (25, 2, 32768), (26, 1, 256), (27, 1, 64), (28, 3, 64), (29, 1, 64), (30, 0, 64), (31, 1, 16384), (32, 1, 16384), (33, 1, 16384), (34, 1, 16384), (35, 1, 16384), (36, 0, 16384), (37, 1, 65536), (38, 1, 65536), (39, 2, 246000), (40, 0, 2000), (41, 0, 2000), (42, 1, 2000), (43, 0, 250), (44, 0, 250), (45, 0, 250), (46, 1, 250), (47, 1, 250), (48, 3, 250), (49, 3, 250), (50, 0, 1000), (51, 0, 1000), (52, 0, 1000), (53, 1, 1000), (54, 3, 1000), (55, 0, 250), (56, 0, 4096), (57, 0, 16), (58, 3, 81920), (59, 1, 81920)]
def mcell (s : mS) (p : Nat × Nat × Nat) : am_Ce := if p.2.1 = 1 then .inl (1, p.2.2, .inr (.inl (s.2.2.2 p.1))) else .inl (p.2.1, p.2.2, .inl (s.2.2.1 p.1))
def RM (s : mS) (h : am_H) : Prop := h[22]? = some (.inr (1, mfs s)) ∧ ∀ p ∈ mat, h[p.1]? = some (mcell s p)
def mI (s : mS) (k : Nat) (v : Int32) : mS := (va_up s.1 k v, s.2)
def mL (s : mS) (k : Nat) (v : Int64) : mS := (s.1, va_up s.2.1 k v, s.2.2)
def mA (s : mS) (a j : Nat) (v : Int32) : mS := (s.1, s.2.1, va_up s.2.2.1 a (upd (s.2.2.1 a) j v), s.2.2.2)
def mB (s : mS) (a j : Nat) (v : Int64) : mS := (s.1, s.2.1, s.2.2.1, va_up s.2.2.2 a (vp_updL (s.2.2.2 a) j v))
theorem mfs_1 (s : mS) (v : Int32) : (mfs s).set 1 (.int v) = mfs (mI s 1 v) := rfl
theorem mfs_3 (s : mS) (v : Int32) : (mfs s).set 3 (.int v) = mfs (mI s 3 v) := rfl
theorem mfs_4 (s : mS) (v : Int32) : (mfs s).set 4 (.int v) = mfs (mI s 4 v) := rfl
theorem mfs_5 (s : mS) (v : Int32) : (mfs s).set 5 (.int v) = mfs (mI s 5 v) := rfl
theorem mfs_7 (s : mS) (v : Int32) : (mfs s).set 7 (.int v) = mfs (mI s 7 v) := rfl
theorem mfs_8 (s : mS) (v : Int32) : (mfs s).set 8 (.int v) = mfs (mI s 8 v) := rfl
theorem mfs_10 (s : mS) (v : Int32) : (mfs s).set 10 (.int v) = mfs (mI s 10 v) := rfl
theorem mfs_15 (s : mS) (v : Int32) : (mfs s).set 15 (.int v) = mfs (mI s 15 v) := rfl
theorem mfs_16 (s : mS) (v : Int32) : (mfs s).set 16 (.int v) = mfs (mI s 16 v) := rfl
theorem mfs_25 (s : mS) (v : Int32) : (mfs s).set 25 (.int v) = mfs (mI s 25 v) := rfl
theorem mfs_30 (s : mS) (v : Int32) : (mfs s).set 30 (.int v) = mfs (mI s 30 v) := rfl
theorem mfs_31 (s : mS) (v : Int32) : (mfs s).set 31 (.int v) = mfs (mI s 31 v) := rfl
theorem mfs_32 (s : mS) (v : Int32) : (mfs s).set 32 (.int v) = mfs (mI s 32 v) := rfl
theorem mfs_48 (s : mS) (v : Int32) : (mfs s).set 48 (.int v) = mfs (mI s 48 v) := rfl
theorem mfs_53 (s : mS) (v : Int32) : (mfs s).set 53 (.int v) = mfs (mI s 53 v) := rfl
theorem mfs_54 (s : mS) (v : Int32) : (mfs s).set 54 (.int v) = mfs (mI s 54 v) := rfl
theorem mfs_55 (s : mS) (v : Int32) : (mfs s).set 55 (.int v) = mfs (mI s 55 v) := rfl
theorem mfs_56 (s : mS) (v : Int32) : (mfs s).set 56 (.int v) = mfs (mI s 56 v) := rfl
theorem mfs_57 (s : mS) (v : Int32) : (mfs s).set 57 (.int v) = mfs (mI s 57 v) := rfl
theorem mfs_58 (s : mS) (v : Int32) : (mfs s).set 58 (.int v) = mfs (mI s 58 v) := rfl
theorem mfs_59 (s : mS) (v : Int32) : (mfs s).set 59 (.int v) = mfs (mI s 59 v) := rfl
theorem mfs_60 (s : mS) (v : Int32) : (mfs s).set 60 (.int v) = mfs (mI s 60 v) := rfl
theorem mfs_61 (s : mS) (v : Int32) : (mfs s).set 61 (.int v) = mfs (mI s 61 v) := rfl
theorem mfs_45 (s : mS) (v : Int64) : (mfs s).set 45 (.long v) = mfs (mL s 45 v) := rfl
theorem mfs_52 (s : mS) (v : Int64) : (mfs s).set 52 (.long v) = mfs (mL s 52 v) := rfl
theorem mfs_len (s : mS) : (mfs s).length = 62 := rfl
theorem mat_ne : ∀ p ∈ mat, p.1 ≠ 22 := by decide
theorem mat_inj : ∀ p ∈ mat, ∀ q ∈ mat, p.1 = q.1 → p = q := by decide +kernel
theorem mat_lo : ∀ p ∈ mat, 22 < p.1 ∧ p.1 < 60 := by decide
section MR
variable {P : am_P} {sc : am_Sc} {F L mc ms j : Nat} {Q : Option Value → am_H → Prop} {pc pc' : Nat} {lo : am_Lo} {st : List Value} {h : am_H} {k n : Nat} {s : mS}
theorem mr_get (ok : am_ok P j) {x len a c : Nat} {v : Value} (hi : P.1 j pc = some (.getfield x, len, a, 1, c)) (hM : RM s h) (hv : (mfs s)[c]? = some v) (hp : pc + 3 = pc') (hk : k ≤ mc) (hn : n ≤ ms) (kk : am_S P sc F L mc ms j (pc', lo, v :: st, h, k, n) Q) : am_S P sc F L mc ms j (pc, lo, .ref 22 :: st, h, k, n) Q := ar_get ok hi hM.1 hv hp hk hn kk
/-- what a write into the reference leaves alone -/
def mF (h h' : am_H) : Prop := (∀ q, q < 22 ∨ 60 ≤ q → h'[q]? = h[q]?) ∧ h'.length = h.length
theorem mF.rf : mF h h := ⟨fun _ _ => rfl, rfl⟩
theorem mF.tr {h1 h2 h3 : am_H} (a : mF h1 h2) (b : mF h2 h3) : mF h1 h3 := ⟨fun q hq => (b.1 q hq).trans (a.1 q hq), b.2.trans a.2⟩
theorem mr_put (ok : am_ok P j) {x len a c : Nat} {v : Value} {s' : mS} (hi : P.1 j pc = some (.putfield x, len, a, 1, c)) (hM : RM s h) (hc : c < 62) (hv : am_pk (am_ft 1 c) v = true) (hs : (mfs s).set c v = mfs s') (ha : s'.2.2 = s.2.2) (hp : pc + 3 = pc') (hk : k ≤ mc) (hn : n ≤ ms) (kk : ∀ h' : am_H, RM s' h' → mF h h' → am_S P sc F L mc ms j (pc', lo, st, h', k, n) Q) : am_S P sc F L mc ms j (pc, lo, v :: .ref 22 :: st, h, k, n) Q := by
  refine ar_put ok hi hM.1 (by rw [mfs_len]; exact hc) hv hs hp hk hn (fun h' e1 e2 e3 => kk h' ⟨e1, fun p hp' => ?_⟩ ⟨fun q hq => e2 q (by omega), e3⟩)
  rw [e2 p.1 (mat_ne p hp'), hM.2 p hp']
  unfold mcell
  rw [ha]
theorem mr_iald (ok : am_ok P j) {len a b c ad N jx : Nat} {i : Int32} (hi : P.1 j pc = some (.iaload, len, a, b, c)) (hM : RM s h) (hm : (ad, 0, N) ∈ mat) (hx : am_ix i N = some jx) (hp : pc + 1 = pc') (hk : k ≤ mc) (hn : n ≤ ms) (kk : am_S P sc F L mc ms j (pc', lo, .int (s.2.2.1 ad jx) :: st, h, k, n) Q) : am_S P sc F L mc ms j (pc, lo, .int i :: .ref ad :: st, h, k, n) Q := by
  have hl := mat_lo _ hm
  exact ar_iald ok hi (fun e => by rw [e] at hl; exact absurd (show am_M < 60 from hl.2) (by decide)) (hM.2 _ hm) hx rfl hp hk hn kk
theorem mr_bald (ok : am_ok P j) {len a b c ad t N jx : Nat} {i : Int32} (hi : P.1 j pc = some (.baload, len, a, b, c)) (hM : RM s h) (hm : (ad, t, N) ∈ mat) (ht : t = 2 ∨ t = 3) (hx : am_ix i N = some jx) (hp : pc + 1 = pc') (hk : k ≤ mc) (hn : n ≤ ms) (kk : am_S P sc F L mc ms j (pc', lo, .int (s.2.2.1 ad jx) :: st, h, k, n) Q) : am_S P sc F L mc ms j (pc, lo, .int i :: .ref ad :: st, h, k, n) Q := by
  have e := hM.2 _ hm
  unfold mcell at e
  rw [if_neg (show ¬ t = 1 by rcases ht with rfl | rfl <;> decide)] at e
  exact ar_bald ok hi e ht hx rfl hp hk hn kk
theorem mr_lald (ok : am_ok P j) {len a b c ad N jx : Nat} {i : Int32} (hi : P.1 j pc = some (.laload, len, a, b, c)) (hM : RM s h) (hm : (ad, 1, N) ∈ mat) (hx : am_ix i N = some jx) (hp : pc + 1 = pc') (hk : k ≤ mc) (hn : n ≤ ms) (kk : am_S P sc F L mc ms j (pc', lo, .long (s.2.2.2 ad jx) :: st, h, k, n) Q) : am_S P sc F L mc ms j (pc, lo, .int i :: .ref ad :: st, h, k, n) Q := ar_lald ok hi (hM.2 _ hm) hx rfl hp hk hn kk
theorem RM_A {h' : am_H} {ad t N jx : Nat} {v : Int32} (hM : RM s h) (hm : (ad, t, N) ∈ mat) (ht : ¬ t = 1) (e1 : h'[ad]? = some (.inl (t, N, .inl (upd (s.2.2.1 ad) jx v)))) (e2 : ∀ q, q ≠ ad → h'[q]? = h[q]?) : RM (mA s ad jx v) h' := by
  refine ⟨(e2 22 (fun e => mat_ne _ hm e.symm)).trans hM.1, fun p hp => ?_⟩
  by_cases hq : p.1 = ad
  · have := mat_inj p hp _ hm hq
    subst this
    unfold mcell mA
    rw [if_neg ht]
    show h'[ad]? = some (.inl (t, N, .inl (va_up s.2.2.1 ad (upd (s.2.2.1 ad) jx v) ad)))
    rw [show va_up s.2.2.1 ad (upd (s.2.2.1 ad) jx v) ad = upd (s.2.2.1 ad) jx v from if_pos rfl]
    exact e1
  · rw [e2 p.1 hq, hM.2 p hp]
    unfold mcell mA
    dsimp only
    rw [show va_up s.2.2.1 ad (upd (s.2.2.1 ad) jx v) p.1 = s.2.2.1 p.1 from if_neg hq]
theorem RM_B {h' : am_H} {ad N jx : Nat} {v : Int64} (hM : RM s h) (hm : (ad, 1, N) ∈ mat) (e1 : h'[ad]? = some (.inl (1, N, .inr (.inl (vp_updL (s.2.2.2 ad) jx v))))) (e2 : ∀ q, q ≠ ad → h'[q]? = h[q]?) : RM (mB s ad jx v) h' := by
  refine ⟨(e2 22 (fun e => mat_ne _ hm e.symm)).trans hM.1, fun p hp => ?_⟩
  by_cases hq : p.1 = ad
  · have := mat_inj p hp _ hm hq
    subst this
    unfold mcell mB
    rw [if_pos rfl]
    show h'[ad]? = some (.inl (1, N, .inr (.inl (va_up s.2.2.2 ad (vp_updL (s.2.2.2 ad) jx v) ad))))
    rw [show va_up s.2.2.2 ad (vp_updL (s.2.2.2 ad) jx v) ad = vp_updL (s.2.2.2 ad) jx v from if_pos rfl]
    exact e1
  · rw [e2 p.1 hq, hM.2 p hp]
    unfold mcell mB
    dsimp only
    rw [show va_up s.2.2.2 ad (vp_updL (s.2.2.2 ad) jx v) p.1 = s.2.2.2 p.1 from if_neg hq]
theorem mr_iast (ok : am_ok P j) {len a b c ad N jx : Nat} {i v : Int32} (hi : P.1 j pc = some (.iastore, len, a, b, c)) (hM : RM s h) (hm : (ad, 0, N) ∈ mat) (hx : am_ix i N = some jx) (hp : pc + 1 = pc') (hk : k ≤ mc) (hn : n ≤ ms) (kk : ∀ h' : am_H, RM (mA s ad jx v) h' → mF h h' → am_S P sc F L mc ms j (pc', lo, st, h', k, n) Q) : am_S P sc F L mc ms j (pc, lo, .int v :: .int i :: .ref ad :: st, h, k, n) Q := by
  have hl := mat_lo _ hm
  exact ar_iast ok hi (hM.2 _ hm) hx hp hk hn (fun h' e1 e2 e3 => kk h' (RM_A hM hm (by decide) e1 e2) ⟨fun q hq => e2 q (by dsimp only at hl; omega), e3⟩)
theorem mr_bast (ok : am_ok P j) {len a b c ad t N jx : Nat} {i v : Int32} (hi : P.1 j pc = some (.bastore, len, a, b, c)) (hM : RM s h) (hm : (ad, t, N) ∈ mat) (ht : t = 2 ∨ t = 3) (hx : am_ix i N = some jx) (hp : pc + 1 = pc') (hk : k ≤ mc) (hn : n ≤ ms) (kk : ∀ h' : am_H, RM (mA s ad jx (am_bn t v)) h' → mF h h' → am_S P sc F L mc ms j (pc', lo, st, h', k, n) Q) : am_S P sc F L mc ms j (pc, lo, .int v :: .int i :: .ref ad :: st, h, k, n) Q := by
  have hl := mat_lo _ hm
  have ht1 : ¬ t = 1 := by rcases ht with rfl | rfl <;> decide
  have e := hM.2 _ hm
  unfold mcell at e
  rw [if_neg ht1] at e
  exact ar_bast ok hi e ht hx hp hk hn (fun h' e1 e2 e3 => kk h' (RM_A hM hm ht1 e1 e2) ⟨fun q hq => e2 q (by dsimp only at hl; omega), e3⟩)
theorem mr_last (ok : am_ok P j) {len a b c ad N jx : Nat} {i : Int32} {v : Int64} (hi : P.1 j pc = some (.lastore, len, a, b, c)) (hM : RM s h) (hm : (ad, 1, N) ∈ mat) (hx : am_ix i N = some jx) (hp : pc + 1 = pc') (hk : k ≤ mc) (hn : n ≤ ms) (kk : ∀ h' : am_H, RM (mB s ad jx v) h' → mF h h' → am_S P sc F L mc ms j (pc', lo, st, h', k, n) Q) : am_S P sc F L mc ms j (pc, lo, .long v :: .int i :: .ref ad :: st, h, k, n) Q := by
  have hl := mat_lo _ hm
  exact ar_last ok hi (hM.2 _ hm) hx hp hk hn (fun h' e1 e2 e3 => kk h' (RM_B hM hm e1 e2) ⟨fun q hq => e2 q (by dsimp only at hl; omega), e3⟩)
end MR
