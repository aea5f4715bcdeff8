/-! Tools for the functions of both sides. -/
def wp {α : Type} (x : Option α) (P : α → Prop) : Prop := ∃ q, x = some q ∧ P q
theorem wp_some {α : Type} {q : α} {P : α → Prop} (h : P q) : wp (some q) P := ⟨q, rfl, h⟩
theorem wp_bind {α β : Type} {x : Option α} {f : α → Option β} {P : α → Prop} {R : β → Prop} (h : wp x P) (k : ∀ q, P q → wp (f q) R) : wp (x.bind f) R := by
  obtain ⟨q, hq, hp⟩ := h
  rw [hq]
  exact k q hp
theorem wp_mono {α : Type} {x : Option α} {P R : α → Prop} (h : wp x P) (k : ∀ q, P q → R q) : wp x R := by
  obtain ⟨q, hq, hp⟩ := h
  exact ⟨q, hq, k q hp⟩
theorem wp_if {α : Type} {c : Prop} [Decidable c] {x y : Option α} {P : α → Prop} (h1 : c → wp x P) (h2 : ¬ c → wp y P) : wp (if c then x else y) P := by
  by_cases h : c
  · rw [if_pos h]; exact h1 h
  · rw [if_neg h]; exact h2 h
theorem wp_eq {α : Type} {x : Option α} {q : α} {P : α → Prop} (h : x = some q) (hp : P q) : wp x P := ⟨q, h, hp⟩
theorem ix_N {i N : Nat} (h : i < N) (hN : N < 2147483648) : am_ix (nI i) N = some i := am_ixN h hN
theorem nI_add1 (a : Nat) : nI a + 1 = nI (a + 1) := am_nadd a 1
theorem nI_le' {a b : Nat} (ha : a < 2147483648) (hb : b < 2147483648) : nI a ≤ nI b ↔ a ≤ b := nI_leI ha hb
theorem nI_lt' {a b : Nat} (ha : a < 2147483648) (hb : b < 2147483648) : nI a < nI b ↔ a < b := nI_ltI ha hb
theorem nI_inj {a b : Nat} (ha : a < 2147483648) (hb : b < 2147483648) (h : nI a = nI b) : a = b := by
  have h1 := nI_clamp (n := a) ha
  have h2 := nI_clamp (n := b) hb
  rw [h] at h1
  omega
/-! The tape: four bytes of a word. -/
def tby (v k : Int32) : Int32 := am_bn 2 (Int8.toInt32 (Int32.toInt8 (v >>> (k &&& 31))))
def hT1 (S : hS) (t : Nat) (b : Int32) : hS := hpI (hpA S 1 t b) 1 0 (nI (t + 1))
def mT1 (s : mS) (t : Nat) (b : Int32) : mS := mI (mA s 23 t b) 1 (nI (t + 1))
def hT4 (S : hS) (t : Nat) (v : Int32) : hS := hT1 (hT1 (hT1 (hT1 S t (tby v 24)) (t + 1) (tby v 16)) (t + 2) (tby v 8)) (t + 3) (tby v 0)
def mT4 (s : mS) (t : Nat) (v : Int32) : mS := mT1 (mT1 (mT1 (mT1 s t (tby v 24)) (t + 1) (tby v 16)) (t + 2) (tby v 8)) (t + 3) (tby v 0)
theorem hT1_t (S : hS) (t : Nat) (b : Int32) : (hT1 S t b).2.1 1 0 = nI (t + 1) := rfl
theorem mT1_t (s : mS) (t : Nat) (b : Int32) : (mT1 s t b).1 1 = nI (t + 1) := rfl
theorem hput_step (fu : Nat) (a v : Int32) (S : hS) (t : Nat) (hv : ¬ v < 0) (ht : S.2.1 1 0 = nI t) (h4 : t < 400) : hl_Ho_putOnTape_3 (fu + 1) a v S = hl_Ho_putOnTape_3 fu a (v + (-8)) (hT1 S t (tby a v)) := by
  conv => lhs; unfold hl_Ho_putOnTape_3
  have h400 : ¬ (400 : Int32) ≤ nI t := fun q => by
    have := am_leN (a := 400) (b := t) (by omega) (by omega) q
    omega
  rw [if_neg hv, ht, if_neg h400, ix_N h4 (by omega)]
  show hl_Ho_putOnTape_3 fu a (v + (-8)) (hpI (hpA S 1 t (tby a v)) 1 0 (nI t + 1)) = _
  rw [nI_add1]; rfl
theorem mput_step (fu : Nat) (a v : Int32) (s : mS) (t : Nat) (hv : ¬ v < 0) (ht : s.1 1 = nI t) (h4 : t < 400) : l_Mo_push_3 (fu + 1) a v s = l_Mo_push_3 fu a (v + (-8)) (mT1 s t (tby a v)) := by
  conv => lhs; unfold l_Mo_push_3
  rw [if_neg hv, ht, ix_N h4 (by omega)]
  show l_Mo_push_3 fu a (v + (-8)) (mI (mA s 23 t (tby a v)) 1 (nI t + 1)) = _
  rw [nI_add1]; rfl
theorem hput (a : Int32) (S : hS) (t : Nat) (ht : S.2.1 1 0 = nI t) (h4 : t + 4 ≤ 400) : h_Ho_putOnTape a S = some (hT4 S t a) := by
  unfold h_Ho_putOnTape
  rw [hput_step 99999 a 24 S t (by decide) ht (by omega), show (24 : Int32) + (-8) = 16 by decide, hput_step 99998 a 16 _ (t + 1) (by decide) rfl (by omega), show (16 : Int32) + (-8) = 8 by decide, hput_step 99997 a 8 _ (t + 2) (by decide) rfl (by omega), show (8 : Int32) + (-8) = 0 by decide, hput_step 99996 a 0 _ (t + 3) (by decide) rfl (by omega)]
  conv => lhs; unfold hl_Ho_putOnTape_3
  rw [if_pos (by decide)]
  rfl
theorem mput (a : Int32) (s : mS) (t : Nat) (ht : s.1 1 = nI t) (h4 : t + 4 ≤ 400) : d_Mo_push a s = some (mT4 s t a) := by
  unfold d_Mo_push
  rw [mput_step 99999 a 24 s t (by decide) ht (by omega), show (24 : Int32) + (-8) = 16 by decide, mput_step 99998 a 16 _ (t + 1) (by decide) rfl (by omega), show (16 : Int32) + (-8) = 8 by decide, mput_step 99997 a 8 _ (t + 2) (by decide) rfl (by omega), show (8 : Int32) + (-8) = 0 by decide, mput_step 99996 a 0 _ (t + 3) (by decide) rfl (by omega)]
  conv => lhs; unfold l_Mo_push_3
  rw [if_pos (by decide)]
  rfl
/-- the tapes -/
def rTape (S : hS) (s : mS) : Prop := ∃ t, t ≤ 400 ∧ S.2.1 1 0 = nI t ∧ s.1 1 = nI t ∧ ∀ j, j < t → S.2.2.2.2.1 1 j = s.2.2.1 23 j
theorem rT1 {S : hS} {s : mS} {t : Nat} {b : Int32} (h : ∀ j, j < t → S.2.2.2.2.1 1 j = s.2.2.1 23 j) : ∀ j, j < t + 1 → (hT1 S t b).2.2.2.2.1 1 j = (mT1 s t b).2.2.1 23 j := by
  intro j hj
  show up2 S.2.2.2.2.1 1 t b 1 j = va_up s.2.2.1 23 (upd (s.2.2.1 23) t b) 23 j
  rw [show va_up s.2.2.1 23 (upd (s.2.2.1 23) t b) 23 = upd (s.2.2.1 23) t b from if_pos rfl, up2_upd]
  unfold upd
  by_cases hq : j = t
  · rw [if_pos hq, if_pos hq]
  · rw [if_neg hq, if_neg hq]; exact h j (by omega)
theorem rT4 {S : hS} {s : mS} {t : Nat} {v : Int32} (h : ∀ j, j < t → S.2.2.2.2.1 1 j = s.2.2.1 23 j) : ∀ j, j < t + 4 → (hT4 S t v).2.2.2.2.1 1 j = (mT4 s t v).2.2.1 23 j := rT1 (rT1 (rT1 (rT1 h)))
def hT20 (S : hS) (t : Nat) (a b c d e : Int32) : hS := hT4 (hT4 (hT4 (hT4 (hT4 S t a) (t + 4) b) (t + 8) c) (t + 12) d) (t + 16) e
def mT20 (s : mS) (t : Nat) (a b c d e : Int32) : mS := mT4 (mT4 (mT4 (mT4 (mT4 s t a) (t + 4) b) (t + 8) c) (t + 12) d) (t + 16) e
/-- feed, on both sides -/
theorem feed_both (a b c d e : Int32) (S : hS) (s : mS) (h : rTape S s) : (h_Ho_feed a b c d e S = some (0, S) ∧ d_Mo_feed a b c d e s = some (0, s)) ∨ ∃ t, h_Ho_feed a b c d e S = some (1, hT20 S t a b c d e) ∧ d_Mo_feed a b c d e s = some (1, mT20 s t a b c d e) ∧ rTape (hT20 S t a b c d e) (mT20 s t a b c d e) := by
  obtain ⟨t, ht, h1, h2, h3⟩ := h
  unfold h_Ho_feed d_Mo_feed
  rw [h1, h2, show nI t + 20 = nI (t + 20) from am_nadd t 20]
  by_cases hq : nI (t + 20) ≤ (400 : Int32)
  · right
    have h20 : t + 20 ≤ 400 := am_leN (a := t + 20) (b := 400) (by omega) (by omega) hq
    refine ⟨t, ?_, ?_, t + 20, h20, rfl, rfl, rT4 (rT4 (rT4 (rT4 (rT4 h3))))⟩
    · rw [if_pos hq, hput a S t h1 (by omega)]
      show (h_Ho_putOnTape b (hT4 S t a)).bind _ = _
      rw [hput b _ (t + 4) rfl (by omega)]
      show (h_Ho_putOnTape c _).bind _ = _
      rw [hput c _ (t + 8) rfl (by omega)]
      show (h_Ho_putOnTape d _).bind _ = _
      rw [hput d _ (t + 12) rfl (by omega)]
      show (h_Ho_putOnTape e _).bind _ = _
      rw [hput e _ (t + 16) rfl (by omega)]
      rfl
    · rw [if_pos hq, mput a s t h2 (by omega)]
      show (d_Mo_push b (mT4 s t a)).bind _ = _
      rw [mput b _ (t + 4) rfl (by omega)]
      show (d_Mo_push c _).bind _ = _
      rw [mput c _ (t + 8) rfl (by omega)]
      show (d_Mo_push d _).bind _ = _
      rw [mput d _ (t + 12) rfl (by omega)]
      show (d_Mo_push e _).bind _ = _
      rw [mput e _ (t + 16) rfl (by omega)]
      rfl
  · left
    rw [if_neg hq, if_neg hq]
    exact ⟨rfl, rfl⟩
