/-! The class reads a message. M: its letters and digits as digits of base 36. -/
def sl (M : List Nat) (a k : Nat) : List Nat := (M.drop a).take k
def num (d : List Nat) : Nat := d.foldl (fun v z => v * 10 + z) 0
def isD (d : List Nat) : Bool := d.all fun z => decide (z < 10)
theorem sl_len {M : List Nat} {a k : Nat} (h : a + k ≤ M.length) : (sl M a k).length = k := by
  unfold sl
  rw [List.length_take, List.length_drop]; omega
theorem sl_36 {M : List Nat} (h : is36 M) (a k : Nat) : is36 (sl M a k) := fun z hz => h z (List.mem_of_mem_drop (List.mem_of_mem_take hz))
theorem sl_0 (M : List Nat) (a : Nat) : sl M a 0 = [] := List.take_zero
theorem sl_succ {M : List Nat} {a i z : Nat} (h : M[a + i]? = some z) : sl M a (i + 1) = sl M a i ++ [z] := by
  unfold sl
  exact take_snoc (by rw [List.getElem?_drop]; exact h)
theorem num_app (d : List Nat) (z : Nat) : num (d ++ [z]) = num d * 10 + z := by
  unfold num
  rw [List.foldl_append]; rfl
theorem isD_app (d : List Nat) (z : Nat) : isD (d ++ [z]) = (isD d && decide (z < 10)) := by
  unfold isD
  rw [List.all_append]; simp
theorem num_lt : ∀ (k : Nat) (d : List Nat), d.length = k → isD d = true → num d < 10 ^ k := by
  intro k
  induction k with
  | zero => intro d hd _; rw [List.length_eq_zero_iff.mp hd]; decide
  | succ k ih =>
    intro d hd h
    have hd0 : d ≠ [] := fun q => by rw [q] at hd; cases hd
    rw [← List.dropLast_concat_getLast hd0] at h hd ⊢
    rw [isD_app, Bool.and_eq_true, decide_eq_true_iff] at h
    rw [List.length_append, List.length_singleton] at hd
    have := ih d.dropLast (by omega) h.1
    rw [num_app, Nat.pow_succ]
    omega
theorem chr_dig : ∀ z : Fin 36, h_Me_isDigit (nI (chr36 z.val)) = some (b2i (decide (z.val < 10))) := by decide +kernel
theorem chr_val : ∀ z : Fin 36, h_Me_valueOf (nI (chr36 z.val)) = some (nI z.val) := by decide +kernel
theorem me_dig {z : Nat} (h : z < 36) : h_Me_isDigit (nI (chr36 z)) = some (b2i (decide (z < 10))) := chr_dig ⟨z, h⟩
theorem me_val {z : Nat} (h : z < 36) : h_Me_valueOf (nI (chr36 z)) = some (nI z) := chr_val ⟨z, h⟩
def RD (S : hS) (M : List Nat) (a : Nat) : Prop := (∀ (j z : Nat), M[j]? = some z → S.2.2.2.2.1 1 j = nI (chr36 z)) ∧ (is36 M) ∧ (5 ≤ M.length ∧ M.length ≤ 400) ∧ (S.2.1 801 2 = nI M.length) ∧ (S.2.1 802 2 = nI a) ∧ (a + 2 ≤ M.length)
theorem RD.tx {S : hS} {M : List Nat} {a : Nat} (h : RD S M a) : ∀ (j z : Nat), M[j]? = some z → S.2.2.2.2.1 1 j = nI (chr36 z) := h.1
theorem RD.m36 {S : hS} {M : List Nat} {a : Nat} (h : RD S M a) : is36 M := h.2.1
theorem RD.n {S : hS} {M : List Nat} {a : Nat} (h : RD S M a) : 5 ≤ M.length ∧ M.length ≤ 400 := h.2.2.1
theorem RD.ln {S : hS} {M : List Nat} {a : Nat} (h : RD S M a) : S.2.1 801 2 = nI M.length := h.2.2.2.1
theorem RD.at {S : hS} {M : List Nat} {a : Nat} (h : RD S M a) : S.2.1 802 2 = nI a := h.2.2.2.2.1
theorem RD.le {S : hS} {M : List Nat} {a : Nat} (h : RD S M a) : a + 2 ≤ M.length := h.2.2.2.2.2
abbrev rI : List Nat := [802, 803, 804, 805, 810, 812, 814, 815, 816, 817]
abbrev rX (S S' : hS) : Prop := hX rI [806, 818] [] [3, 4] [6] [] S S'
theorem RD.x {S S' : hS} {M : List Nat} {a b : Nat} (h : RD S M a) (w : rX S S') (h2 : S'.2.1 802 2 = nI b) (hb : b + 2 ≤ M.length) : RD S' M b := ⟨fun j z hj => (w.ea _ (by decide) _).trans (h.tx j z hj), h.m36, h.n, (w.ei _ (by decide) _).trans h.ln, h2, hb⟩
/-- 802 and 803 alone -/
abbrev pX (S S' : hS) : Prop := hX [802, 803] [] [] [] [] [] S S'
theorem pX.r {S S' : hS} (w : pX S S') : rX S S' := w.mono (by decide) (by simp) (by simp) (by simp) (by simp) (by simp)
theorem h_rc_loop {M : List Nat} {a k : Nat} (hk : k ≤ 8) : ∀ (d fu i : Nat) (S : hS), RD S M (a + i) → k - i = d → d < fu → i ≤ k → (a + k + 2 ≤ M.length ∧ ∃ S', hl_Me_readCode_5 fu (nI k) (lI (b36 (sl M a i) : Nat)) (nI i) S = some (lI (b36 (sl M a k) : Nat), S') ∧ RD S' M (a + k) ∧ S'.2.1 803 2 = S.2.1 803 2 ∧ pX S S') ∨ (¬ a + k + 2 ≤ M.length ∧ ∃ S' b, hl_Me_readCode_5 fu (nI k) (lI (b36 (sl M a i) : Nat)) (nI i) S = some (0, S') ∧ RD S' M b ∧ S'.2.1 803 2 = 0 ∧ pX S S') := by
  intro d
  induction d with
  | zero =>
    intro fu i S h hd hf hi
    obtain ⟨fu, rfl⟩ : ∃ f, fu = f + 1 := ⟨fu - 1, by omega⟩
    have e : i = k := by omega
    subst e
    refine Or.inl ⟨h.le, S, ?_, h, rfl, hX.rf⟩
    unfold hl_Me_readCode_5
    rw [if_pos (nI_le0 (by omega) (by omega) (by omega))]
  | succ d ih =>
    intro fu i S h hd hf hi
    obtain ⟨fu, rfl⟩ : ∃ f, fu = f + 1 := ⟨fu - 1, by omega⟩
    have hn := h.n
    have hle := h.le
    have e2 : S.2.1 801 2 - 2 = nI (M.length - 2) := by rw [h.ln]; exact nI_sub' (a := M.length) (b := 2) (by omega)
    by_cases hc : a + i + 2 < M.length
    · obtain ⟨z, hz⟩ := get_lt (ks := M) (j := a + i) (by omega)
      have hz36 := h.m36 z (List.mem_of_getElem? hz)
      have w1 : pX S (hpI S 802 2 (nI (a + i + 1))) := hX.rf.pI (by decide)
      have h1 : RD (hpI S 802 2 (nI (a + i + 1))) M (a + (i + 1)) := h.x w1.r (by simp [hpI, up2]; rfl) (by omega)
      have hst : hl_Me_readCode_5 (fu + 1) (nI k) (lI (b36 (sl M a i) : Nat)) (nI i) S = hl_Me_readCode_5 fu (nI k) (lI (b36 (sl M a (i + 1)) : Nat)) (nI (i + 1)) (hpI S 802 2 (nI (a + i + 1))) := by
        conv => lhs; unfold hl_Me_readCode_5
        rw [if_neg (nI_ngt (by omega) (by omega) (by omega)), e2, h.at, if_pos ((nI_lt' (by omega) (by omega)).mpr (by omega)), ix_N (by omega) (by omega), Option.bind_some, h.tx _ z hz, me_val hz36, Option.bind_some, nI_add1, nI_add1, nI_toL (by omega), show Int64.ofNat 36 = lI 36 from rfl, lI_mul, lI_add, sl_succ hz, b36_app]
        congr 1
      have e803 : (hpI S 802 2 (nI (a + i + 1))).2.1 803 2 = S.2.1 803 2 := by simp [hpI, up2]
      rcases ih fu (i + 1) _ h1 (by omega) (by omega) (by omega) with ⟨c, S', b1, b2, b3, b4⟩ | ⟨c, S', b, b1, b2, b3, b4⟩
      · exact Or.inl ⟨c, S', hst.trans b1, b2, b3.trans e803, w1.tr b4⟩
      · exact Or.inr ⟨c, S', b, hst.trans b1, b2, b3, w1.tr b4⟩
    · have w1 : pX S (hpI S 803 2 0) := hX.rf.pI (by decide)
      refine Or.inr ⟨by omega, hpI S 803 2 0, a + i, ?_, h.x w1.r (by rw [← h.at]; simp [hpI, up2]) h.le, by simp [hpI, up2], w1⟩
      unfold hl_Me_readCode_5
      rw [if_neg (nI_ngt (by omega) (by omega) (by omega)), e2, h.at, if_neg (fun q => by have := (nI_lt' (by omega) (by omega)).mp q; omega)]
theorem h_rc {S : hS} {M : List Nat} {a : Nat} (h : RD S M a) (k : Nat) (hk : k ≤ 8) : (a + k + 2 ≤ M.length ∧ ∃ S', h_Me_readCode (nI k) S = some (lI (b36 (sl M a k) : Nat), S') ∧ RD S' M (a + k) ∧ S'.2.1 803 2 = S.2.1 803 2 ∧ pX S S') ∨ (¬ a + k + 2 ≤ M.length ∧ ∃ S' b, h_Me_readCode (nI k) S = some (0, S') ∧ RD S' M b ∧ S'.2.1 803 2 = 0 ∧ pX S S') := by
  have := h_rc_loop (M := M) (a := a) hk _ 100000 0 S h rfl (by omega) (by omega)
  rw [sl_0] at this
  unfold h_Me_readCode
  exact this
theorem h_rd_loop {M : List Nat} {a k : Nat} (hk : k ≤ 15) : ∀ (d fu i : Nat) (S : hS), RD S M (a + i) → isD (sl M a i) = true → k - i = d → d < fu → i ≤ k → ((a + k + 2 ≤ M.length ∧ isD (sl M a k) = true) ∧ ∃ S', hl_Me_readDigits_5 fu (nI k) (lI (num (sl M a i) : Nat)) (nI i) S = some (lI (num (sl M a k) : Nat), S') ∧ RD S' M (a + k) ∧ S'.2.1 803 2 = S.2.1 803 2 ∧ pX S S') ∨ (¬ (a + k + 2 ≤ M.length ∧ isD (sl M a k) = true) ∧ ∃ S' b, hl_Me_readDigits_5 fu (nI k) (lI (num (sl M a i) : Nat)) (nI i) S = some (0, S') ∧ RD S' M b ∧ S'.2.1 803 2 = 0 ∧ pX S S') := by
  intro d
  induction d with
  | zero =>
    intro fu i S h hD hd hf hi
    obtain ⟨fu, rfl⟩ : ∃ f, fu = f + 1 := ⟨fu - 1, by omega⟩
    have e : i = k := by omega
    subst e
    refine Or.inl ⟨⟨h.le, hD⟩, S, ?_, h, rfl, hX.rf⟩
    unfold hl_Me_readDigits_5
    rw [if_pos (nI_le0 (by omega) (by omega) (by omega))]
  | succ d ih =>
    intro fu i S h hD hd hf hi
    obtain ⟨fu, rfl⟩ : ∃ f, fu = f + 1 := ⟨fu - 1, by omega⟩
    have hn := h.n
    have hle := h.le
    have e2 : S.2.1 801 2 - 2 = nI (M.length - 2) := by rw [h.ln]; exact nI_sub' (a := M.length) (b := 2) (by omega)
    have w0 : pX S (hpI S 803 2 0) := hX.rf.pI (by decide)
    by_cases hc : a + i + 2 < M.length
    · obtain ⟨z, hz⟩ := get_lt (ks := M) (j := a + i) (by omega)
      have hz36 := h.m36 z (List.mem_of_getElem? hz)
      by_cases hz10 : z < 10
      · have w1 : pX S (hpI S 802 2 (nI (a + i + 1))) := hX.rf.pI (by decide)
        have h1 : RD (hpI S 802 2 (nI (a + i + 1))) M (a + (i + 1)) := h.x w1.r (by simp [hpI, up2]; rfl) (by omega)
        have hst : hl_Me_readDigits_5 (fu + 1) (nI k) (lI (num (sl M a i) : Nat)) (nI i) S = hl_Me_readDigits_5 fu (nI k) (lI (num (sl M a (i + 1)) : Nat)) (nI (i + 1)) (hpI S 802 2 (nI (a + i + 1))) := by
          conv => lhs; unfold hl_Me_readDigits_5
          rw [if_neg (nI_ngt (by omega) (by omega) (by omega)), e2, h.at, if_neg (nI_ngt (by omega) (by omega) (by omega)), ix_N (by omega) (by omega), Option.bind_some, h.tx _ z hz, me_dig hz36, Option.bind_some, decide_eq_true hz10, if_pos (by decide), me_val hz36, Option.bind_some, nI_add1, nI_add1, nI_toL (by omega), show Int64.ofNat 10 = lI 10 from rfl, lI_mul, lI_add, sl_succ hz, num_app]
          congr 1
        have e803 : (hpI S 802 2 (nI (a + i + 1))).2.1 803 2 = S.2.1 803 2 := by simp [hpI, up2]
        rcases ih fu (i + 1) _ h1 (by rw [sl_succ hz, isD_app, hD, decide_eq_true hz10]; rfl) (by omega) (by omega) (by omega) with ⟨c, S', b1, b2, b3, b4⟩ | ⟨c, S', b, b1, b2, b3, b4⟩
        · exact Or.inl ⟨c, S', hst.trans b1, b2, b3.trans e803, w1.tr b4⟩
        · exact Or.inr ⟨c, S', b, hst.trans b1, b2, b3, w1.tr b4⟩
      · refine Or.inr ⟨fun c => ?_, hpI S 803 2 0, a + i, ?_, h.x w0.r (by rw [← h.at]; simp [hpI, up2]) h.le, by simp [hpI, up2], w0⟩
        · have hm : z ∈ sl M a k := by
            unfold sl
            exact List.mem_of_getElem? (i := i) (by rw [List.getElem?_take, if_pos (by omega), List.getElem?_drop]; exact hz)
          have := List.all_eq_true.mp c.2 z hm
          exact hz10 (by simpa using this)
        · unfold hl_Me_readDigits_5
          rw [if_neg (nI_ngt (by omega) (by omega) (by omega)), e2, h.at, if_neg (nI_ngt (by omega) (by omega) (by omega)), ix_N (by omega) (by omega), Option.bind_some, h.tx _ z hz, me_dig hz36, Option.bind_some, decide_eq_false hz10, if_neg (by decide)]
    · refine Or.inr ⟨by omega, hpI S 803 2 0, a + i, ?_, h.x w0.r (by rw [← h.at]; simp [hpI, up2]) h.le, by simp [hpI, up2], w0⟩
      unfold hl_Me_readDigits_5
      rw [if_neg (nI_ngt (by omega) (by omega) (by omega)), e2, h.at, if_pos (nI_le0 (by omega) (by omega) (by omega))]
theorem h_rd {S : hS} {M : List Nat} {a : Nat} (h : RD S M a) (k : Nat) (hk : k ≤ 15) : ((a + k + 2 ≤ M.length ∧ isD (sl M a k) = true) ∧ ∃ S', h_Me_readDigits (nI k) S = some (lI (num (sl M a k) : Nat), S') ∧ RD S' M (a + k) ∧ S'.2.1 803 2 = S.2.1 803 2 ∧ pX S S') ∨ (¬ (a + k + 2 ≤ M.length ∧ isD (sl M a k) = true) ∧ ∃ S' b, h_Me_readDigits (nI k) S = some (0, S') ∧ RD S' M b ∧ S'.2.1 803 2 = 0 ∧ pX S S') := by
  have := h_rd_loop (M := M) (a := a) hk _ 100000 0 S h (by rw [sl_0]; rfl) rfl (by omega) (by omega)
  rw [sl_0] at this
  unfold h_Me_readDigits
  exact this
/-! The parts of a message that are read into a row. -/
theorem h_rk {S : hS} {M : List Nat} {a c : Nat} (h : RD S M a) (as : Bool) (hc : S.2.1 810 2 = nI c) (hc12 : c < 12) : (a + (if as then 3 else 4) + 2 ≤ M.length ∧ ∃ S', h_Me_readKnownCode (b2i as) S = some S' ∧ RD S' M (a + (if as then 3 else 4)) ∧ S'.2.1 803 2 = S.2.1 803 2 ∧ S'.2.1 810 2 = nI (c + 1) ∧ S'.2.1 812 2 = S.2.1 812 2 ∧ S'.2.2.2.2.1 3 c = nI (b36 (sl M a (if as then 3 else 4))) ∧ S'.2.2.2.2.1 4 c = b2i as ∧ (∀ j, j ≠ c → S'.2.2.2.2.1 3 j = S.2.2.2.2.1 3 j ∧ S'.2.2.2.2.1 4 j = S.2.2.2.2.1 4 j) ∧ hX [802, 803, 810] [] [] [3, 4] [] [] S S') ∨ (¬ a + (if as then 3 else 4) + 2 ≤ M.length ∧ ∃ S' b, h_Me_readKnownCode (b2i as) S = some S' ∧ RD S' M b ∧ S'.2.1 803 2 = 0 ∧ S'.2.1 810 2 = nI (c + 1) ∧ S'.2.1 812 2 = S.2.1 812 2 ∧ hX [802, 803, 810] [] [] [3, 4] [] [] S S') := by
  obtain ⟨k, hk⟩ : ∃ k : Nat, k = if as then 3 else 4 := ⟨_, rfl⟩
  rw [← hk]
  have hk8 : k = 3 ∨ k = 4 := by rw [hk]; cases as <;> simp
  have hu : (if b2i as = 0 then some (4 : Int32) else some 3) = some (nI k) := by rw [hk]; cases as <;> rfl
  have hbn : am_bn 3 (b2i as) = b2i as := by cases as <;> decide
  have fin : ∀ (v : Int64) (S1 : hS) (b : Nat), h_Me_readCode (nI k) S = some (v, S1) → pX S S1 → RD S1 M b → ∃ S', h_Me_readKnownCode (b2i as) S = some S' ∧ RD S' M b ∧ S'.2.1 803 2 = S1.2.1 803 2 ∧ S'.2.1 810 2 = nI (c + 1) ∧ S'.2.1 812 2 = S.2.1 812 2 ∧ S'.2.2.2.2.1 3 c = Int64.toInt32 v ∧ S'.2.2.2.2.1 4 c = b2i as ∧ (∀ j, j ≠ c → S'.2.2.2.2.1 3 j = S.2.2.2.2.1 3 j ∧ S'.2.2.2.2.1 4 j = S.2.2.2.2.1 4 j) ∧ hX [802, 803, 810] [] [] [3, 4] [] [] S S' := by
    intro v S1 b e w hR
    have hc1 : S1.2.1 810 2 = nI c := (w.ei _ (by decide) _).trans hc
    have w2 : hX [810] [] [] [3, 4] [] [] S1 (hpI (hpA (hpA S1 3 c (Int64.toInt32 v)) 4 c (b2i as)) 810 2 (nI (c + 1))) := ((hX.rf.pA (by decide)).pA (by decide)).pI (by decide)
    refine ⟨hpI (hpA (hpA S1 3 c (Int64.toInt32 v)) 4 c (b2i as)) 810 2 (nI (c + 1)), ?_, hR.x (w2.mono (by decide) (by simp) (by simp) (by simp) (by simp) (by simp)) ((w2.ei _ (by decide) _).trans hR.at) hR.le, w2.ei _ (by decide) _, by simp [hpI, up2], (w2.ei _ (by decide) _).trans (w.ei _ (by decide) _), by simp [hpI, hpA, up2], by simp [hpI, hpA, up2], fun j hj => ⟨?_, ?_⟩, (w.mono (by decide) (by simp) (by simp) (by simp) (by simp) (by simp)).tr (w2.mono (by decide) (by simp) (by simp) (by simp) (by simp) (by simp))⟩
    · unfold h_Me_readKnownCode
      rw [hc, if_pos (show nI c < 12 from (nI_lt' (a := c) (b := 12) (by omega) (by omega)).mpr hc12), hu, Option.bind_some, e, Option.bind_some, ix_N (by omega) (by omega), Option.bind_some]
      show ((am_ix (S1.2.1 810 2) 12).bind _) = _
      rw [hc1, ix_N (by omega) (by omega), Option.bind_some, hbn]
      rw [nI_add1]
    · rw [← w.ea 3 (by simp)]
      simp [hpI, hpA, up2, hj]
    · rw [← w.ea 4 (by simp)]
      simp [hpI, hpA, up2, hj]
  rcases h_rc h k (by omega) with ⟨q, S1, a1, a2, a3, a4⟩ | ⟨q, S1, b, a1, a2, a3, a4⟩
  · obtain ⟨S', b1, b2, b3, b4, b5, b6, b7, b8, b9⟩ := fin _ S1 _ a1 a4 a2
    rw [lI_to32] at b6
    exact Or.inl ⟨q, S', b1, b2, b3.trans a3, b4, b5, b6, b7, b8, b9⟩
  · obtain ⟨S', b1, b2, b3, b4, b5, b6, b7, b8, b9⟩ := fin _ S1 _ a1 a4 a2
    exact Or.inr ⟨q, S', b, b1, b2, b3.trans a3, b4, b5, b9⟩
theorem h_ra {S : hS} {M : List Nat} {a c : Nat} (h : RD S M a) (hc : S.2.1 812 2 = nI c) (hc4 : c < 4) : ((a + 15 + 2 ≤ M.length ∧ isD (sl M a 15) = true) ∧ ∃ S', h_Me_readAmount S = some S' ∧ RD S' M (a + 15) ∧ S'.2.1 803 2 = S.2.1 803 2 ∧ S'.2.1 812 2 = nI (c + 1) ∧ S'.2.2.2.2.2.1 6 c = lI (num (sl M a 15) : Nat) ∧ (∀ j, j ≠ c → S'.2.2.2.2.2.1 6 j = S.2.2.2.2.2.1 6 j) ∧ hX [802, 803, 812] [] [] [] [6] [] S S') ∨ (¬ (a + 15 + 2 ≤ M.length ∧ isD (sl M a 15) = true) ∧ ∃ S' b, h_Me_readAmount S = some S' ∧ RD S' M b ∧ S'.2.1 803 2 = 0 ∧ S'.2.1 812 2 = nI (c + 1) ∧ hX [802, 803, 812] [] [] [] [6] [] S S') := by
  have fin : ∀ (v : Int64) (S1 : hS) (b : Nat), h_Me_readDigits (nI 15) S = some (v, S1) → pX S S1 → RD S1 M b → ∃ S', h_Me_readAmount S = some S' ∧ RD S' M b ∧ S'.2.1 803 2 = S1.2.1 803 2 ∧ S'.2.1 812 2 = nI (c + 1) ∧ S'.2.2.2.2.2.1 6 c = v ∧ (∀ j, j ≠ c → S'.2.2.2.2.2.1 6 j = S.2.2.2.2.2.1 6 j) ∧ hX [802, 803, 812] [] [] [] [6] [] S S' := by
    intro v S1 b e w hR
    have hc1 : S1.2.1 812 2 = nI c := (w.ei _ (by decide) _).trans hc
    have w2 : hX [812] [] [] [] [6] [] S1 (hpI (hpB S1 6 c v) 812 2 (nI (c + 1))) := (hX.rf.pB (by decide)).pI (by decide)
    refine ⟨hpI (hpB S1 6 c v) 812 2 (nI (c + 1)), ?_, hR.x (w2.mono (by decide) (by simp) (by simp) (by simp) (by simp) (by simp)) ((w2.ei _ (by decide) _).trans hR.at) hR.le, w2.ei _ (by decide) _, by simp [hpI, up2], by simp [hpI, hpB, up2], fun j hj => ?_, (w.mono (by decide) (by simp) (by simp) (by simp) (by simp) (by simp)).tr (w2.mono (by decide) (by simp) (by simp) (by simp) (by simp) (by simp))⟩
    · unfold h_Me_readAmount
      have e' : h_Me_readDigits 15 S = some (v, S1) := e
      rw [hc, if_pos (show nI c < 4 from (nI_lt' (a := c) (b := 4) (by omega) (by omega)).mpr hc4), e', Option.bind_some, ix_N (by omega) (by omega), Option.bind_some]
      show some (hpI (hpB S1 6 c v) 812 2 (S1.2.1 812 2 + 1)) = _
      rw [hc1, nI_add1]
    · rw [← w.eb 6 (by simp)]
      simp [hpI, hpB, up2, hj]
  rcases h_rd h 15 (by omega) with ⟨q, S1, a1, a2, a3, a4⟩ | ⟨q, S1, b, a1, a2, a3, a4⟩
  · obtain ⟨S', b1, b2, b3, b4, b5, b6, b7⟩ := fin _ S1 _ a1 a4 a2
    exact Or.inl ⟨q, S', b1, b2, b3.trans a3, b4, b5, b6, b7⟩
  · obtain ⟨S', b1, b2, b3, b4, b5, b6, b7⟩ := fin _ S1 _ a1 a4 a2
    exact Or.inr ⟨q, S', b, b1, b2, b3.trans a3, b4, b7⟩
